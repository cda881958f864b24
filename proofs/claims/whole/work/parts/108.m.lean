theorem d_Fe_balanceOf_0 : decode c_Fe_balanceOf 0 = .ok (.iconst 0, 1) := by decide +kernel
theorem d_Fe_balanceOf_1 : decode c_Fe_balanceOf 1 = .ok (.istore 4, 2) := by decide +kernel
theorem d_Fe_balanceOf_3 : decode c_Fe_balanceOf 3 = .ok (.iconst 0, 1) := by decide +kernel
theorem d_Fe_balanceOf_4 : decode c_Fe_balanceOf 4 = .ok (.istore 5, 2) := by decide +kernel
theorem d_Fe_balanceOf_6 : decode c_Fe_balanceOf 6 = .ok (.iload 5, 2) := by decide +kernel
theorem d_Fe_balanceOf_8 : decode c_Fe_balanceOf 8 = .ok (.aload_n 2, 1) := by decide +kernel
theorem d_Fe_balanceOf_9 : decode c_Fe_balanceOf 9 = .ok (.getfield 53, 3) := by decide +kernel
theorem d_Fe_balanceOf_12 : decode c_Fe_balanceOf 12 = .ok (.if_icmp .ge 64, 3) := by decide +kernel
theorem d_Fe_balanceOf_15 : decode c_Fe_balanceOf 15 = .ok (.aload_n 2, 1) := by decide +kernel
theorem d_Fe_balanceOf_16 : decode c_Fe_balanceOf 16 = .ok (.iload 5, 2) := by decide +kernel
theorem d_Fe_balanceOf_18 : decode c_Fe_balanceOf 18 = .ok (.invokevirtual 58, 3) := by decide +kernel
theorem d_Fe_balanceOf_21 : decode c_Fe_balanceOf 21 = .ok (.astore 6, 2) := by decide +kernel
theorem d_Fe_balanceOf_23 : decode c_Fe_balanceOf 23 = .ok (.aload_n 1, 1) := by decide +kernel
theorem d_Fe_balanceOf_24 : decode c_Fe_balanceOf 24 = .ok (.aload 6, 2) := by decide +kernel
theorem d_Fe_balanceOf_26 : decode c_Fe_balanceOf 26 = .ok (.invokestatic 61, 3) := by decide +kernel
theorem d_Fe_balanceOf_29 : decode c_Fe_balanceOf 29 = .ok (.istore 7, 2) := by decide +kernel
theorem d_Fe_balanceOf_31 : decode c_Fe_balanceOf 31 = .ok (.aload_n 1, 1) := by decide +kernel
theorem d_Fe_balanceOf_32 : decode c_Fe_balanceOf 32 = .ok (.aload 6, 2) := by decide +kernel
theorem d_Fe_balanceOf_34 : decode c_Fe_balanceOf 34 = .ok (.getfield 25, 3) := by decide +kernel
theorem d_Fe_balanceOf_37 : decode c_Fe_balanceOf 37 = .ok (.invokevirtual 37, 3) := by decide +kernel
theorem d_Fe_balanceOf_40 : decode c_Fe_balanceOf 40 = .ok (.getfield 65, 3) := by decide +kernel
theorem d_Fe_balanceOf_43 : decode c_Fe_balanceOf 43 = .ok (.iload_n 3, 1) := by decide +kernel
theorem d_Fe_balanceOf_44 : decode c_Fe_balanceOf 44 = .ok (.if_icmp .ne 10, 3) := by decide +kernel
theorem d_Fe_balanceOf_47 : decode c_Fe_balanceOf 47 = .ok (.iload 4, 2) := by decide +kernel
theorem d_Fe_balanceOf_49 : decode c_Fe_balanceOf 49 = .ok (.iload 7, 2) := by decide +kernel
theorem d_Fe_balanceOf_51 : decode c_Fe_balanceOf 51 = .ok (.iadd, 1) := by decide +kernel
theorem d_Fe_balanceOf_52 : decode c_Fe_balanceOf 52 = .ok (.istore 4, 2) := by decide +kernel
theorem d_Fe_balanceOf_54 : decode c_Fe_balanceOf 54 = .ok (.aload 6, 2) := by decide +kernel
theorem d_Fe_balanceOf_56 : decode c_Fe_balanceOf 56 = .ok (.getfield 68, 3) := by decide +kernel
theorem d_Fe_balanceOf_59 : decode c_Fe_balanceOf 59 = .ok (.iload_n 3, 1) := by decide +kernel
theorem d_Fe_balanceOf_60 : decode c_Fe_balanceOf 60 = .ok (.if_icmp .ne 10, 3) := by decide +kernel
theorem d_Fe_balanceOf_63 : decode c_Fe_balanceOf 63 = .ok (.iload 4, 2) := by decide +kernel
theorem d_Fe_balanceOf_65 : decode c_Fe_balanceOf 65 = .ok (.iload 7, 2) := by decide +kernel
theorem d_Fe_balanceOf_67 : decode c_Fe_balanceOf 67 = .ok (.isub, 1) := by decide +kernel
theorem d_Fe_balanceOf_68 : decode c_Fe_balanceOf 68 = .ok (.istore 4, 2) := by decide +kernel
theorem d_Fe_balanceOf_70 : decode c_Fe_balanceOf 70 = .ok (.iinc 5 1, 3) := by decide +kernel
theorem d_Fe_balanceOf_73 : decode c_Fe_balanceOf 73 = .ok (.goto (-67), 3) := by decide +kernel
theorem d_Fe_balanceOf_76 : decode c_Fe_balanceOf 76 = .ok (.iload 4, 2) := by decide +kernel
theorem d_Fe_balanceOf_78 : decode c_Fe_balanceOf 78 = .ok (.ireturn, 1) := by decide +kernel
theorem d_GR_balance_0 : decode c_GR_balance 0 = .ok (.iload_n 1, 1) := by decide +kernel
theorem d_GR_balance_1 : decode c_GR_balance 1 = .ok (.iconst 5, 1) := by decide +kernel
theorem d_GR_balance_2 : decode c_GR_balance 2 = .ok (.invokestatic 67, 3) := by decide +kernel
theorem d_GR_balance_5 : decode c_GR_balance 5 = .ok (.ifCond .ne 7, 3) := by decide +kernel
theorem d_GR_balance_8 : decode c_GR_balance 8 = .ok (.sipush (-10002), 3) := by decide +kernel
theorem d_GR_balance_11 : decode c_GR_balance 11 = .ok (.ireturn, 1) := by decide +kernel
theorem d_GR_balance_12 : decode c_GR_balance 12 = .ok (.aload_n 0, 1) := by decide +kernel
theorem d_GR_balance_13 : decode c_GR_balance 13 = .ok (.getfield 56, 3) := by decide +kernel
theorem d_GR_balance_16 : decode c_GR_balance 16 = .ok (.aload_n 0, 1) := by decide +kernel
theorem d_GR_balance_17 : decode c_GR_balance 17 = .ok (.getfield 24, 3) := by decide +kernel
theorem d_GR_balance_20 : decode c_GR_balance 20 = .ok (.aload_n 0, 1) := by decide +kernel
theorem d_GR_balance_21 : decode c_GR_balance 21 = .ok (.getfield 35, 3) := by decide +kernel
theorem d_GR_balance_24 : decode c_GR_balance 24 = .ok (.iload_n 1, 1) := by decide +kernel
theorem d_GR_balance_25 : decode c_GR_balance 25 = .ok (.invokevirtual 253, 3) := by decide +kernel
theorem d_GR_balance_28 : decode c_GR_balance 28 = .ok (.ireturn, 1) := by decide +kernel
theorem d_Fe_mostGroups_0 : decode c_Fe_mostGroups 0 = .ok (.iconst 1, 1) := by decide +kernel
theorem d_Fe_mostGroups_1 : decode c_Fe_mostGroups 1 = .ok (.istore_n 1, 1) := by decide +kernel
theorem d_Fe_mostGroups_2 : decode c_Fe_mostGroups 2 = .ok (.iload_n 1, 1) := by decide +kernel
theorem d_Fe_mostGroups_3 : decode c_Fe_mostGroups 3 = .ok (.bipush 32, 2) := by decide +kernel
theorem d_Fe_mostGroups_5 : decode c_Fe_mostGroups 5 = .ok (.if_icmp .ge 93, 3) := by decide +kernel
theorem d_Fe_mostGroups_8 : decode c_Fe_mostGroups 8 = .ok (.iconst 0, 1) := by decide +kernel
theorem d_Fe_mostGroups_9 : decode c_Fe_mostGroups 9 = .ok (.istore_n 2, 1) := by decide +kernel
theorem d_Fe_mostGroups_10 : decode c_Fe_mostGroups 10 = .ok (.iconst 0, 1) := by decide +kernel
theorem d_Fe_mostGroups_11 : decode c_Fe_mostGroups 11 = .ok (.istore_n 3, 1) := by decide +kernel
theorem d_Fe_mostGroups_12 : decode c_Fe_mostGroups 12 = .ok (.iload_n 3, 1) := by decide +kernel
theorem d_Fe_mostGroups_13 : decode c_Fe_mostGroups 13 = .ok (.iconst 5, 1) := by decide +kernel
theorem d_Fe_mostGroups_14 : decode c_Fe_mostGroups 14 = .ok (.if_icmp .ge 56, 3) := by decide +kernel
theorem d_Fe_mostGroups_17 : decode c_Fe_mostGroups 17 = .ok (.iload_n 1, 1) := by decide +kernel
theorem d_Fe_mostGroups_18 : decode c_Fe_mostGroups 18 = .ok (.iconst 1, 1) := by decide +kernel
theorem d_Fe_mostGroups_19 : decode c_Fe_mostGroups 19 = .ok (.iload_n 3, 1) := by decide +kernel
theorem d_Fe_mostGroups_20 : decode c_Fe_mostGroups 20 = .ok (.ishl, 1) := by decide +kernel
theorem d_Fe_mostGroups_21 : decode c_Fe_mostGroups 21 = .ok (.iconst (-1), 1) := by decide +kernel
theorem d_Fe_mostGroups_22 : decode c_Fe_mostGroups 22 = .ok (.ixor, 1) := by decide +kernel
theorem d_Fe_mostGroups_23 : decode c_Fe_mostGroups 23 = .ok (.iand, 1) := by decide +kernel
theorem d_Fe_mostGroups_24 : decode c_Fe_mostGroups 24 = .ok (.istore 4, 2) := by decide +kernel
theorem d_Fe_mostGroups_26 : decode c_Fe_mostGroups 26 = .ok (.iload 4, 2) := by decide +kernel
theorem d_Fe_mostGroups_28 : decode c_Fe_mostGroups 28 = .ok (.iload_n 1, 1) := by decide +kernel
theorem d_Fe_mostGroups_29 : decode c_Fe_mostGroups 29 = .ok (.if_icmp .eq 35, 3) := by decide +kernel
theorem d_Fe_mostGroups_32 : decode c_Fe_mostGroups 32 = .ok (.aload_n 0, 1) := by decide +kernel
theorem d_Fe_mostGroups_33 : decode c_Fe_mostGroups 33 = .ok (.getfield 15, 3) := by decide +kernel
theorem d_Fe_mostGroups_36 : decode c_Fe_mostGroups 36 = .ok (.iload_n 1, 1) := by decide +kernel
theorem d_Fe_mostGroups_37 : decode c_Fe_mostGroups 37 = .ok (.aload_n 0, 1) := by decide +kernel
theorem d_Fe_mostGroups_38 : decode c_Fe_mostGroups 38 = .ok (.getfield 15, 3) := by decide +kernel
theorem d_Fe_mostGroups_41 : decode c_Fe_mostGroups 41 = .ok (.iload 4, 2) := by decide +kernel
theorem d_Fe_mostGroups_43 : decode c_Fe_mostGroups 43 = .ok (.iaload, 1) := by decide +kernel
theorem d_Fe_mostGroups_44 : decode c_Fe_mostGroups 44 = .ok (.aload_n 0, 1) := by decide +kernel
theorem d_Fe_mostGroups_45 : decode c_Fe_mostGroups 45 = .ok (.getfield 9, 3) := by decide +kernel
theorem d_Fe_mostGroups_48 : decode c_Fe_mostGroups 48 = .ok (.iload_n 3, 1) := by decide +kernel
theorem d_Fe_mostGroups_49 : decode c_Fe_mostGroups 49 = .ok (.iaload, 1) := by decide +kernel
theorem d_Fe_mostGroups_50 : decode c_Fe_mostGroups 50 = .ok (.iadd, 1) := by decide +kernel
theorem d_Fe_mostGroups_51 : decode c_Fe_mostGroups 51 = .ok (.iastore, 1) := by decide +kernel
theorem d_Fe_mostGroups_52 : decode c_Fe_mostGroups 52 = .ok (.iload_n 2, 1) := by decide +kernel
theorem d_Fe_mostGroups_53 : decode c_Fe_mostGroups 53 = .ok (.aload_n 0, 1) := by decide +kernel
theorem d_Fe_mostGroups_54 : decode c_Fe_mostGroups 54 = .ok (.getfield 18, 3) := by decide +kernel
theorem d_Fe_mostGroups_57 : decode c_Fe_mostGroups 57 = .ok (.iload 4, 2) := by decide +kernel
theorem d_Fe_mostGroups_59 : decode c_Fe_mostGroups 59 = .ok (.iaload, 1) := by decide +kernel
theorem d_Fe_mostGroups_60 : decode c_Fe_mostGroups 60 = .ok (.invokestatic 77, 3) := by decide +kernel
theorem d_Fe_mostGroups_63 : decode c_Fe_mostGroups 63 = .ok (.istore_n 2, 1) := by decide +kernel
theorem d_Fe_mostGroups_64 : decode c_Fe_mostGroups 64 = .ok (.iinc 3 1, 3) := by decide +kernel
theorem d_Fe_mostGroups_67 : decode c_Fe_mostGroups 67 = .ok (.goto (-55), 3) := by decide +kernel
theorem d_Fe_mostGroups_70 : decode c_Fe_mostGroups 70 = .ok (.aload_n 0, 1) := by decide +kernel
theorem d_Fe_mostGroups_71 : decode c_Fe_mostGroups 71 = .ok (.getfield 18, 3) := by decide +kernel
theorem d_Fe_mostGroups_74 : decode c_Fe_mostGroups 74 = .ok (.iload_n 1, 1) := by decide +kernel
theorem d_Fe_mostGroups_75 : decode c_Fe_mostGroups 75 = .ok (.aload_n 0, 1) := by decide +kernel
theorem d_Fe_mostGroups_76 : decode c_Fe_mostGroups 76 = .ok (.getfield 15, 3) := by decide +kernel
theorem d_Fe_mostGroups_79 : decode c_Fe_mostGroups 79 = .ok (.iload_n 1, 1) := by decide +kernel
theorem d_Fe_mostGroups_80 : decode c_Fe_mostGroups 80 = .ok (.iaload, 1) := by decide +kernel
theorem d_Fe_mostGroups_81 : decode c_Fe_mostGroups 81 = .ok (.ifCond .ne 9, 3) := by decide +kernel
theorem d_Fe_mostGroups_84 : decode c_Fe_mostGroups 84 = .ok (.iload_n 2, 1) := by decide +kernel
theorem d_Fe_mostGroups_85 : decode c_Fe_mostGroups 85 = .ok (.iconst 1, 1) := by decide +kernel
theorem d_Fe_mostGroups_86 : decode c_Fe_mostGroups 86 = .ok (.iadd, 1) := by decide +kernel
theorem d_Fe_mostGroups_87 : decode c_Fe_mostGroups 87 = .ok (.goto 4, 3) := by decide +kernel
theorem d_Fe_mostGroups_90 : decode c_Fe_mostGroups 90 = .ok (.iload_n 2, 1) := by decide +kernel
theorem d_Fe_mostGroups_91 : decode c_Fe_mostGroups 91 = .ok (.iastore, 1) := by decide +kernel
theorem d_Fe_mostGroups_92 : decode c_Fe_mostGroups 92 = .ok (.iinc 1 1, 3) := by decide +kernel
theorem d_Fe_mostGroups_95 : decode c_Fe_mostGroups 95 = .ok (.goto (-93), 3) := by decide +kernel
theorem d_Fe_mostGroups_98 : decode c_Fe_mostGroups 98 = .ok (.aload_n 0, 1) := by decide +kernel
theorem d_Fe_mostGroups_99 : decode c_Fe_mostGroups 99 = .ok (.getfield 18, 3) := by decide +kernel
theorem d_Fe_mostGroups_102 : decode c_Fe_mostGroups 102 = .ok (.bipush 31, 2) := by decide +kernel
theorem d_Fe_mostGroups_104 : decode c_Fe_mostGroups 104 = .ok (.iaload, 1) := by decide +kernel
theorem d_Fe_mostGroups_105 : decode c_Fe_mostGroups 105 = .ok (.ireturn, 1) := by decide +kernel
theorem d_Fe_payments_0 : decode c_Fe_payments 0 = .ok (.iconst 0, 1) := by decide +kernel
theorem d_Fe_payments_1 : decode c_Fe_payments 1 = .ok (.istore_n 3, 1) := by decide +kernel
theorem d_Fe_payments_2 : decode c_Fe_payments 2 = .ok (.iload_n 3, 1) := by decide +kernel
theorem d_Fe_payments_3 : decode c_Fe_payments 3 = .ok (.iconst 5, 1) := by decide +kernel
theorem d_Fe_payments_4 : decode c_Fe_payments 4 = .ok (.if_icmp .ge 22, 3) := by decide +kernel
theorem d_Fe_payments_7 : decode c_Fe_payments 7 = .ok (.aload_n 0, 1) := by decide +kernel
theorem d_Fe_payments_8 : decode c_Fe_payments 8 = .ok (.getfield 9, 3) := by decide +kernel
theorem d_Fe_payments_11 : decode c_Fe_payments 11 = .ok (.iload_n 3, 1) := by decide +kernel
theorem d_Fe_payments_12 : decode c_Fe_payments 12 = .ok (.aload_n 0, 1) := by decide +kernel
theorem d_Fe_payments_13 : decode c_Fe_payments 13 = .ok (.aload_n 1, 1) := by decide +kernel
theorem d_Fe_payments_14 : decode c_Fe_payments 14 = .ok (.aload_n 2, 1) := by decide +kernel
theorem d_Fe_payments_15 : decode c_Fe_payments 15 = .ok (.iload_n 3, 1) := by decide +kernel
theorem d_Fe_payments_16 : decode c_Fe_payments 16 = .ok (.invokevirtual 69, 3) := by decide +kernel
theorem d_Fe_payments_19 : decode c_Fe_payments 19 = .ok (.iastore, 1) := by decide +kernel
theorem d_Fe_payments_20 : decode c_Fe_payments 20 = .ok (.iinc 3 1, 3) := by decide +kernel
theorem d_Fe_payments_23 : decode c_Fe_payments 23 = .ok (.goto (-21), 3) := by decide +kernel
theorem d_Fe_payments_26 : decode c_Fe_payments 26 = .ok (.iconst 5, 1) := by decide +kernel
theorem d_Fe_payments_27 : decode c_Fe_payments 27 = .ok (.aload_n 0, 1) := by decide +kernel
theorem d_Fe_payments_28 : decode c_Fe_payments 28 = .ok (.invokevirtual 73, 3) := by decide +kernel
theorem d_Fe_payments_31 : decode c_Fe_payments 31 = .ok (.isub, 1) := by decide +kernel
theorem d_Fe_payments_32 : decode c_Fe_payments 32 = .ok (.ireturn, 1) := by decide +kernel
theorem d_GR_settled_0 : decode c_GR_settled 0 = .ok (.aload_n 0, 1) := by decide +kernel
theorem d_GR_settled_1 : decode c_GR_settled 1 = .ok (.getfield 56, 3) := by decide +kernel
theorem d_GR_settled_4 : decode c_GR_settled 4 = .ok (.aload_n 0, 1) := by decide +kernel
theorem d_GR_settled_5 : decode c_GR_settled 5 = .ok (.getfield 24, 3) := by decide +kernel
theorem d_GR_settled_8 : decode c_GR_settled 8 = .ok (.aload_n 0, 1) := by decide +kernel
theorem d_GR_settled_9 : decode c_GR_settled 9 = .ok (.getfield 35, 3) := by decide +kernel
theorem d_GR_settled_12 : decode c_GR_settled 12 = .ok (.invokevirtual 256, 3) := by decide +kernel
theorem d_GR_settled_15 : decode c_GR_settled 15 = .ok (.ireturn, 1) := by decide +kernel
theorem d_Fe_addTrip_0 : decode c_Fe_addTrip 0 = .ok (.bipush 99, 2) := by decide +kernel
theorem d_Fe_addTrip_2 : decode c_Fe_addTrip 2 = .ok (.istore_n 2, 1) := by decide +kernel
theorem d_Fe_addTrip_3 : decode c_Fe_addTrip 3 = .ok (.iload_n 2, 1) := by decide +kernel
theorem d_Fe_addTrip_4 : decode c_Fe_addTrip 4 = .ok (.ifCond .lt 55, 3) := by decide +kernel
theorem d_Fe_addTrip_7 : decode c_Fe_addTrip 7 = .ok (.lconst 0, 1) := by decide +kernel
theorem d_Fe_addTrip_8 : decode c_Fe_addTrip 8 = .ok (.lstore_n 3, 1) := by decide +kernel
theorem d_Fe_addTrip_9 : decode c_Fe_addTrip 9 = .ok (.iconst 0, 1) := by decide +kernel
theorem d_Fe_addTrip_10 : decode c_Fe_addTrip 10 = .ok (.istore 5, 2) := by decide +kernel
theorem d_Fe_addTrip_12 : decode c_Fe_addTrip 12 = .ok (.iload 5, 2) := by decide +kernel
theorem d_Fe_addTrip_14 : decode c_Fe_addTrip 14 = .ok (.iload_n 1, 1) := by decide +kernel
theorem d_Fe_addTrip_15 : decode c_Fe_addTrip 15 = .ok (.if_icmp .gt 31, 3) := by decide +kernel
theorem d_Fe_addTrip_18 : decode c_Fe_addTrip 18 = .ok (.iload 5, 2) := by decide +kernel
theorem d_Fe_addTrip_20 : decode c_Fe_addTrip 20 = .ok (.iconst 1, 1) := by decide +kernel
theorem d_Fe_addTrip_21 : decode c_Fe_addTrip 21 = .ok (.iadd, 1) := by decide +kernel
theorem d_Fe_addTrip_22 : decode c_Fe_addTrip 22 = .ok (.iload_n 2, 1) := by decide +kernel
theorem d_Fe_addTrip_23 : decode c_Fe_addTrip 23 = .ok (.if_icmp .gt 23, 3) := by decide +kernel
theorem d_Fe_addTrip_26 : decode c_Fe_addTrip 26 = .ok (.lload_n 3, 1) := by decide +kernel
theorem d_Fe_addTrip_27 : decode c_Fe_addTrip 27 = .ok (.aload_n 0, 1) := by decide +kernel
theorem d_Fe_addTrip_28 : decode c_Fe_addTrip 28 = .ok (.getfield 21, 3) := by decide +kernel
theorem d_Fe_addTrip_31 : decode c_Fe_addTrip 31 = .ok (.iload_n 2, 1) := by decide +kernel
theorem d_Fe_addTrip_32 : decode c_Fe_addTrip 32 = .ok (.iload 5, 2) := by decide +kernel
theorem d_Fe_addTrip_34 : decode c_Fe_addTrip 34 = .ok (.isub, 1) := by decide +kernel
theorem d_Fe_addTrip_35 : decode c_Fe_addTrip 35 = .ok (.iconst 1, 1) := by decide +kernel
theorem d_Fe_addTrip_36 : decode c_Fe_addTrip 36 = .ok (.isub, 1) := by decide +kernel
theorem d_Fe_addTrip_37 : decode c_Fe_addTrip 37 = .ok (.laload, 1) := by decide +kernel
theorem d_Fe_addTrip_38 : decode c_Fe_addTrip 38 = .ok (.ladd, 1) := by decide +kernel
theorem d_Fe_addTrip_39 : decode c_Fe_addTrip 39 = .ok (.lstore_n 3, 1) := by decide +kernel
theorem d_Fe_addTrip_40 : decode c_Fe_addTrip 40 = .ok (.iinc 5 1, 3) := by decide +kernel
theorem d_Fe_addTrip_43 : decode c_Fe_addTrip 43 = .ok (.goto (-31), 3) := by decide +kernel
theorem d_Fe_addTrip_46 : decode c_Fe_addTrip 46 = .ok (.aload_n 0, 1) := by decide +kernel
theorem d_Fe_addTrip_47 : decode c_Fe_addTrip 47 = .ok (.getfield 21, 3) := by decide +kernel
theorem d_Fe_addTrip_50 : decode c_Fe_addTrip 50 = .ok (.iload_n 2, 1) := by decide +kernel
theorem d_Fe_addTrip_51 : decode c_Fe_addTrip 51 = .ok (.lload_n 3, 1) := by decide +kernel
theorem d_Fe_addTrip_52 : decode c_Fe_addTrip 52 = .ok (.lastore, 1) := by decide +kernel
theorem d_Fe_addTrip_53 : decode c_Fe_addTrip 53 = .ok (.iinc 2 (-1), 3) := by decide +kernel
theorem d_Fe_addTrip_56 : decode c_Fe_addTrip 56 = .ok (.goto (-53), 3) := by decide +kernel
theorem d_Fe_addTrip_59 : decode c_Fe_addTrip 59 = .ok (.return_, 1) := by decide +kernel
theorem d_Fe_ways_0 : decode c_Fe_ways 0 = .ok (.iconst 0, 1) := by decide +kernel
theorem d_Fe_ways_1 : decode c_Fe_ways 1 = .ok (.istore 4, 2) := by decide +kernel
theorem d_Fe_ways_3 : decode c_Fe_ways 3 = .ok (.iload 4, 2) := by decide +kernel
theorem d_Fe_ways_5 : decode c_Fe_ways 5 = .ok (.bipush 100, 2) := by decide +kernel
theorem d_Fe_ways_7 : decode c_Fe_ways 7 = .ok (.if_icmp .ge 17, 3) := by decide +kernel
theorem d_Fe_ways_10 : decode c_Fe_ways 10 = .ok (.aload_n 0, 1) := by decide +kernel
theorem d_Fe_ways_11 : decode c_Fe_ways 11 = .ok (.getfield 21, 3) := by decide +kernel
theorem d_Fe_ways_14 : decode c_Fe_ways 14 = .ok (.iload 4, 2) := by decide +kernel
theorem d_Fe_ways_16 : decode c_Fe_ways 16 = .ok (.lconst 0, 1) := by decide +kernel
theorem d_Fe_ways_17 : decode c_Fe_ways 17 = .ok (.lastore, 1) := by decide +kernel
theorem d_Fe_ways_18 : decode c_Fe_ways 18 = .ok (.iinc 4 1, 3) := by decide +kernel
theorem d_Fe_ways_21 : decode c_Fe_ways 21 = .ok (.goto (-18), 3) := by decide +kernel
theorem d_Fe_ways_24 : decode c_Fe_ways 24 = .ok (.aload_n 0, 1) := by decide +kernel
theorem d_Fe_ways_25 : decode c_Fe_ways 25 = .ok (.getfield 21, 3) := by decide +kernel
theorem d_Fe_ways_28 : decode c_Fe_ways 28 = .ok (.iconst 0, 1) := by decide +kernel
theorem d_Fe_ways_29 : decode c_Fe_ways 29 = .ok (.lconst 1, 1) := by decide +kernel
theorem d_Fe_ways_30 : decode c_Fe_ways 30 = .ok (.lastore, 1) := by decide +kernel
theorem d_Fe_ways_31 : decode c_Fe_ways 31 = .ok (.iconst 0, 1) := by decide +kernel
theorem d_Fe_ways_32 : decode c_Fe_ways 32 = .ok (.istore 4, 2) := by decide +kernel
theorem d_Fe_ways_34 : decode c_Fe_ways 34 = .ok (.iload 4, 2) := by decide +kernel
theorem d_Fe_ways_36 : decode c_Fe_ways 36 = .ok (.iload_n 2, 1) := by decide +kernel
theorem d_Fe_ways_37 : decode c_Fe_ways 37 = .ok (.if_icmp .ge 14, 3) := by decide +kernel
theorem d_Fe_ways_40 : decode c_Fe_ways 40 = .ok (.aload_n 0, 1) := by decide +kernel
theorem d_Fe_ways_41 : decode c_Fe_ways 41 = .ok (.iload_n 1, 1) := by decide +kernel
theorem d_Fe_ways_42 : decode c_Fe_ways 42 = .ok (.invokevirtual 82, 3) := by decide +kernel
theorem d_Fe_ways_45 : decode c_Fe_ways 45 = .ok (.iinc 4 1, 3) := by decide +kernel
theorem d_Fe_ways_48 : decode c_Fe_ways 48 = .ok (.goto (-14), 3) := by decide +kernel
theorem d_Fe_ways_51 : decode c_Fe_ways 51 = .ok (.iload_n 3, 1) := by decide +kernel
theorem d_Fe_ways_52 : decode c_Fe_ways 52 = .ok (.bipush 100, 2) := by decide +kernel
theorem d_Fe_ways_54 : decode c_Fe_ways 54 = .ok (.invokestatic 86, 3) := by decide +kernel
theorem d_Fe_ways_57 : decode c_Fe_ways 57 = .ok (.ifCond .eq 12, 3) := by decide +kernel
theorem d_Fe_ways_60 : decode c_Fe_ways 60 = .ok (.aload_n 0, 1) := by decide +kernel
theorem d_Fe_ways_61 : decode c_Fe_ways 61 = .ok (.getfield 21, 3) := by decide +kernel
theorem d_Fe_ways_64 : decode c_Fe_ways 64 = .ok (.iload_n 3, 1) := by decide +kernel
theorem d_Fe_ways_65 : decode c_Fe_ways 65 = .ok (.laload, 1) := by decide +kernel
theorem d_Fe_ways_66 : decode c_Fe_ways 66 = .ok (.goto 4, 3) := by decide +kernel
theorem d_Fe_ways_69 : decode c_Fe_ways 69 = .ok (.lconst 0, 1) := by decide +kernel
theorem d_Fe_ways_70 : decode c_Fe_ways 70 = .ok (.lreturn, 1) := by decide +kernel
theorem d_GR_knots_0 : decode c_GR_knots 0 = .ok (.aload_n 0, 1) := by decide +kernel
theorem d_GR_knots_1 : decode c_GR_knots 1 = .ok (.getfield 24, 3) := by decide +kernel
theorem d_GR_knots_4 : decode c_GR_knots 4 = .ok (.iload_n 1, 1) := by decide +kernel
theorem d_GR_knots_5 : decode c_GR_knots 5 = .ok (.invokevirtual 100, 3) := by decide +kernel
theorem d_GR_knots_8 : decode c_GR_knots 8 = .ok (.ifCond .eq 22, 3) := by decide +kernel
theorem d_GR_knots_11 : decode c_GR_knots 11 = .ok (.iload_n 2, 1) := by decide +kernel
theorem d_GR_knots_12 : decode c_GR_knots 12 = .ok (.ifCond .lt 18, 3) := by decide +kernel
theorem d_GR_knots_15 : decode c_GR_knots 15 = .ok (.iload_n 2, 1) := by decide +kernel
theorem d_GR_knots_16 : decode c_GR_knots 16 = .ok (.bipush 9, 2) := by decide +kernel
theorem d_GR_knots_18 : decode c_GR_knots 18 = .ok (.if_icmp .gt 12, 3) := by decide +kernel
theorem d_GR_knots_21 : decode c_GR_knots 21 = .ok (.iload_n 3, 1) := by decide +kernel
theorem d_GR_knots_22 : decode c_GR_knots 22 = .ok (.bipush 100, 2) := by decide +kernel
theorem d_GR_knots_24 : decode c_GR_knots 24 = .ok (.invokestatic 67, 3) := by decide +kernel
theorem d_GR_knots_27 : decode c_GR_knots 27 = .ok (.ifCond .ne 9, 3) := by decide +kernel
theorem d_GR_knots_30 : decode c_GR_knots 30 = .ok (.bipush (-2), 2) := by decide +kernel
theorem d_GR_knots_32 : decode c_GR_knots 32 = .ok (.invokestatic 125, 3) := by decide +kernel
theorem d_GR_knots_35 : decode c_GR_knots 35 = .ok (.lreturn, 1) := by decide +kernel
theorem d_GR_knots_36 : decode c_GR_knots 36 = .ok (.aload_n 0, 1) := by decide +kernel
theorem d_GR_knots_37 : decode c_GR_knots 37 = .ok (.getfield 56, 3) := by decide +kernel
theorem d_GR_knots_40 : decode c_GR_knots 40 = .ok (.aload_n 0, 1) := by decide +kernel
theorem d_GR_knots_41 : decode c_GR_knots 41 = .ok (.getfield 24, 3) := by decide +kernel
theorem d_GR_knots_44 : decode c_GR_knots 44 = .ok (.iload_n 1, 1) := by decide +kernel
theorem d_GR_knots_45 : decode c_GR_knots 45 = .ok (.invokevirtual 104, 3) := by decide +kernel
theorem d_GR_knots_48 : decode c_GR_knots 48 = .ok (.getfield 220, 3) := by decide +kernel
theorem d_GR_knots_51 : decode c_GR_knots 51 = .ok (.iload_n 2, 1) := by decide +kernel
theorem d_GR_knots_52 : decode c_GR_knots 52 = .ok (.iload_n 3, 1) := by decide +kernel
theorem d_GR_knots_53 : decode c_GR_knots 53 = .ok (.invokevirtual 260, 3) := by decide +kernel
theorem d_GR_knots_56 : decode c_GR_knots 56 = .ok (.lreturn, 1) := by decide +kernel
theorem d_Sh_renew_0 : decode c_Sh_renew 0 = .ok (.aload_n 0, 1) := by decide +kernel
theorem d_Sh_renew_1 : decode c_Sh_renew 1 = .ok (.iload_n 1, 1) := by decide +kernel
theorem d_Sh_renew_2 : decode c_Sh_renew 2 = .ok (.putfield 15, 3) := by decide +kernel
theorem d_Sh_renew_5 : decode c_Sh_renew 5 = .ok (.aload_n 0, 1) := by decide +kernel
theorem d_Sh_renew_6 : decode c_Sh_renew 6 = .ok (.iconst 0, 1) := by decide +kernel
theorem d_Sh_renew_7 : decode c_Sh_renew 7 = .ok (.iload_n 2, 1) := by decide +kernel
theorem d_Sh_renew_8 : decode c_Sh_renew 8 = .ok (.bipush 60, 2) := by decide +kernel
theorem d_Sh_renew_10 : decode c_Sh_renew 10 = .ok (.invokestatic 19, 3) := by decide +kernel
theorem d_Sh_renew_13 : decode c_Sh_renew 13 = .ok (.invokestatic 25, 3) := by decide +kernel
theorem d_Sh_renew_16 : decode c_Sh_renew 16 = .ok (.putfield 28, 3) := by decide +kernel
theorem d_Sh_renew_19 : decode c_Sh_renew 19 = .ok (.iconst 0, 1) := by decide +kernel
theorem d_Sh_renew_20 : decode c_Sh_renew 20 = .ok (.istore_n 3, 1) := by decide +kernel
theorem d_Sh_renew_21 : decode c_Sh_renew 21 = .ok (.iload_n 3, 1) := by decide +kernel
theorem d_Sh_renew_22 : decode c_Sh_renew 22 = .ok (.bipush 60, 2) := by decide +kernel
theorem d_Sh_renew_24 : decode c_Sh_renew 24 = .ok (.if_icmp .ge 16, 3) := by decide +kernel
theorem d_Sh_renew_27 : decode c_Sh_renew 27 = .ok (.aload_n 0, 1) := by decide +kernel
theorem d_Sh_renew_28 : decode c_Sh_renew 28 = .ok (.getfield 9, 3) := by decide +kernel
theorem d_Sh_renew_31 : decode c_Sh_renew 31 = .ok (.iload_n 3, 1) := by decide +kernel
theorem d_Sh_renew_32 : decode c_Sh_renew 32 = .ok (.iconst 0, 1) := by decide +kernel
theorem d_Sh_renew_33 : decode c_Sh_renew 33 = .ok (.iastore, 1) := by decide +kernel
theorem d_Sh_renew_34 : decode c_Sh_renew 34 = .ok (.iinc 3 1, 3) := by decide +kernel
theorem d_Sh_renew_37 : decode c_Sh_renew 37 = .ok (.goto (-16), 3) := by decide +kernel
theorem d_Sh_renew_40 : decode c_Sh_renew 40 = .ok (.return_, 1) := by decide +kernel
theorem d_GR_sheet_0 : decode c_GR_sheet 0 = .ok (.iload_n 1, 1) := by decide +kernel
theorem d_GR_sheet_1 : decode c_GR_sheet 1 = .ok (.iconst 4, 1) := by decide +kernel
theorem d_GR_sheet_2 : decode c_GR_sheet 2 = .ok (.invokestatic 67, 3) := by decide +kernel
theorem d_GR_sheet_5 : decode c_GR_sheet 5 = .ok (.ifCond .eq 17, 3) := by decide +kernel
theorem d_GR_sheet_8 : decode c_GR_sheet 8 = .ok (.iload_n 2, 1) := by decide +kernel
theorem d_GR_sheet_9 : decode c_GR_sheet 9 = .ok (.iconst 3, 1) := by decide +kernel
theorem d_GR_sheet_10 : decode c_GR_sheet 10 = .ok (.invokestatic 67, 3) := by decide +kernel
theorem d_GR_sheet_13 : decode c_GR_sheet 13 = .ok (.ifCond .eq 9, 3) := by decide +kernel
theorem d_GR_sheet_16 : decode c_GR_sheet 16 = .ok (.iload_n 3, 1) := by decide +kernel
theorem d_GR_sheet_17 : decode c_GR_sheet 17 = .ok (.bipush 60, 2) := by decide +kernel
theorem d_GR_sheet_19 : decode c_GR_sheet 19 = .ok (.if_icmp .le 6, 3) := by decide +kernel
theorem d_GR_sheet_22 : decode c_GR_sheet 22 = .ok (.bipush (-2), 2) := by decide +kernel
theorem d_GR_sheet_24 : decode c_GR_sheet 24 = .ok (.ireturn, 1) := by decide +kernel
theorem d_GR_sheet_25 : decode c_GR_sheet 25 = .ok (.iload_n 3, 1) := by decide +kernel
theorem d_GR_sheet_26 : decode c_GR_sheet 26 = .ok (.ifCond .ge 12, 3) := by decide +kernel
theorem d_GR_sheet_29 : decode c_GR_sheet 29 = .ok (.aload_n 0, 1) := by decide +kernel
theorem d_GR_sheet_30 : decode c_GR_sheet 30 = .ok (.getfield 63, 3) := by decide +kernel
theorem d_GR_sheet_33 : decode c_GR_sheet 33 = .ok (.iconst 5, 1) := by decide +kernel
theorem d_GR_sheet_34 : decode c_GR_sheet 34 = .ok (.invokevirtual 165, 3) := by decide +kernel
theorem d_GR_sheet_37 : decode c_GR_sheet 37 = .ok (.ireturn, 1) := by decide +kernel
theorem d_GR_sheet_38 : decode c_GR_sheet 38 = .ok (.aload_n 0, 1) := by decide +kernel
theorem d_GR_sheet_39 : decode c_GR_sheet 39 = .ok (.getfield 63, 3) := by decide +kernel
theorem d_GR_sheet_42 : decode c_GR_sheet 42 = .ok (.iload_n 1, 1) := by decide +kernel
theorem d_GR_sheet_43 : decode c_GR_sheet 43 = .ok (.invokevirtual 157, 3) := by decide +kernel
theorem d_GR_sheet_46 : decode c_GR_sheet 46 = .ok (.iload_n 2, 1) := by decide +kernel
theorem d_GR_sheet_47 : decode c_GR_sheet 47 = .ok (.iload_n 3, 1) := by decide +kernel
theorem d_GR_sheet_48 : decode c_GR_sheet 48 = .ok (.invokevirtual 264, 3) := by decide +kernel
theorem d_GR_sheet_51 : decode c_GR_sheet 51 = .ok (.iload_n 3, 1) := by decide +kernel
theorem d_GR_sheet_52 : decode c_GR_sheet 52 = .ok (.ireturn, 1) := by decide +kernel
def f_Fe_balanceOf_70 (k6 : Sg → Int32 → Int32 → Int32 → Option Int32) (σ : Sg) (v3 : Int32) (v4 : Int32) (v5 : Int32) : Option Int32 :=
  k6 σ v3 v4 (v5 + 1)
set_option maxHeartbeats 4000000 in
theorem j_Fe_balanceOf_70 {V : Vx} {X : Xx} {σ : Sg} {r : Int32} {k6 : Sg → Int32 → Int32 → Int32 → Option Int32} (hk6 : ∀ (v3 : Int32) (v4 : Int32) (v5 : Int32), k6 σ v3 v4 v5 = some r → J V X (k2_rm 3 64) c_Fe_balanceOf R_Fe 8 (some .int) (Qr V X (some (.int r)) σ) σ 6 [(1, rf V 5), (2, rf V 18), (3, .int v3), (4, .int v4), (5, .int v5)] []) (v3 : Int32) (v4 : Int32) (v5 : Int32) (hf : f_Fe_balanceOf_70 k6 σ v3 v4 v5 = some r) : J V X (k2_rm 3 64) c_Fe_balanceOf R_Fe 8 (some .int) (Qr V X (some (.int r)) σ) σ 70 [(1, rf V 5), (2, rf V 18), (3, .int v3), (4, .int v4), (5, .int v5)] [] := by
  unfold f_Fe_balanceOf_70 at hf
  refine J_iinc (pc' := 73) (j := 4) (v := 1) (lv' := [(5, .int (v5 + 1)), (1, rf V 5), (2, rf V 18), (3, .int v3), (4, .int v4)]) d_Fe_balanceOf_70 rfl rfl ic_1 (by decide) rfl ?_
  refine J_goto (tgt := 6) d_Fe_balanceOf_73 (by decide) ?_
  refine J_pick [1, 2, 3, 4, 0] rfl ?_
  exact hk6 _ _ _ hf
def f_Fe_balanceOf_54 (k6 : Sg → Int32 → Int32 → Int32 → Option Int32) (σ : Sg) (v3 : Int32) (v4 : Int32) (v5 : Int32) (v6 : Nat) (v7 : Int32) : Option Int32 :=
  if (σ.1 v6 4) = v3 then f_Fe_balanceOf_70 k6 σ v3 (v4 - v7) v5 else f_Fe_balanceOf_70 k6 σ v3 v4 v5
set_option maxHeartbeats 4000000 in
theorem j_Fe_balanceOf_54 {V : Vx} {X : Xx} {σ : Sg} {r : Int32} {k6 : Sg → Int32 → Int32 → Int32 → Option Int32} (hk6 : ∀ (v3 : Int32) (v4 : Int32) (v5 : Int32), k6 σ v3 v4 v5 = some r → J V X (k2_rm 3 64) c_Fe_balanceOf R_Fe 8 (some .int) (Qr V X (some (.int r)) σ) σ 6 [(1, rf V 5), (2, rf V 18), (3, .int v3), (4, .int v4), (5, .int v5)] []) (v3 : Int32) (v4 : Int32) (v5 : Int32) (v6 : Nat) (v7 : Int32) (iv6 : is_Tr v6) (hf : f_Fe_balanceOf_54 k6 σ v3 v4 v5 v6 v7 = some r) : J V X (k2_rm 3 64) c_Fe_balanceOf R_Fe 8 (some .int) (Qr V X (some (.int r)) σ) σ 54 [(1, rf V 5), (2, rf V 18), (3, .int v3), (4, .int v4), (5, .int v5), (6, rf V v6), (7, .int v7)] [] := by
  unfold f_Fe_balanceOf_54 at hf
  refine J_aload (pc' := 56) d_Fe_balanceOf_54 rfl 5 rfl ?_
  refine J_getI (pc' := 59) d_Fe_balanceOf_56 rfl (sh_Tr iv6) fl_Fe_68 rfl ?_
  refine J_iload_n (pc' := 60) d_Fe_balanceOf_59 rfl 2 rfl ?_
  refine J_icmp_ne (pc' := 63) (tgt := 70) d_Fe_balanceOf_60 rfl (by decide) (fun hc3 => ?_) (fun hc3 => ?_)
  · have hf := brF hc3 hf
    refine J_pick [0, 1, 2, 3, 4] rfl ?_
    exact j_Fe_balanceOf_70 hk6 _ _ _ hf
  · have hf := brT hc3 hf
    refine J_iload (pc' := 65) d_Fe_balanceOf_63 rfl 3 rfl ?_
    refine J_iload (pc' := 67) d_Fe_balanceOf_65 rfl 6 rfl ?_
    refine J_isub (pc' := 68) d_Fe_balanceOf_67 rfl ?_
    refine J_istore (pc' := 70) (lv' := [(4, .int (v4 - v7)), (1, rf V 5), (2, rf V 18), (3, .int v3), (5, .int v5), (6, rf V v6), (7, .int v7)]) d_Fe_balanceOf_68 rfl (by decide) rfl ?_
    refine J_pick [1, 2, 3, 0, 4] rfl ?_
    exact j_Fe_balanceOf_70 hk6 _ _ _ hf
def f_Fe_balanceOf_6 : Nat → Sg → Int32 → Int32 → Int32 → Option Int32
  | 0, _, _, _, _ => none
  | n + 1, σ, v3, v4, v5 =>
    if (σ.1 18 2) ≤ v5 then
      some v4
    else
      if (σ.1 (f_Rs_at (σ.1 (f_Ts_at v5) 0)) 5) = v3 then
        f_Fe_balanceOf_54 (f_Fe_balanceOf_6 n) σ v3 (v4 + (f_Fe_fareOf σ (f_Ts_at v5))) v5 (f_Ts_at v5) (f_Fe_fareOf σ (f_Ts_at v5))
      else
        f_Fe_balanceOf_54 (f_Fe_balanceOf_6 n) σ v3 v4 v5 (f_Ts_at v5) (f_Fe_fareOf σ (f_Ts_at v5))
theorem f_Fe_balanceOf_6_s (n : Nat) (σ : Sg) (v3 : Int32) (v4 : Int32) (v5 : Int32) : f_Fe_balanceOf_6 (n + 1) σ v3 v4 v5 =
    if (σ.1 18 2) ≤ v5 then
      some v4
    else
      if (σ.1 (f_Rs_at (σ.1 (f_Ts_at v5) 0)) 5) = v3 then
        f_Fe_balanceOf_54 (f_Fe_balanceOf_6 n) σ v3 (v4 + (f_Fe_fareOf σ (f_Ts_at v5))) v5 (f_Ts_at v5) (f_Fe_fareOf σ (f_Ts_at v5))
      else
        f_Fe_balanceOf_54 (f_Fe_balanceOf_6 n) σ v3 v4 v5 (f_Ts_at v5) (f_Fe_fareOf σ (f_Ts_at v5)) := rfl
set_option maxHeartbeats 4000000 in
theorem j_Fe_balanceOf_6 {V : Vx} {X : Xx} {σ : Sg} {r : Int32}  : ∀ (n : Nat) (v3 : Int32) (v4 : Int32) (v5 : Int32), f_Fe_balanceOf_6 n σ v3 v4 v5 = some r → J V X (k2_rm 3 64) c_Fe_balanceOf R_Fe 8 (some .int) (Qr V X (some (.int r)) σ) σ 6 [(1, rf V 5), (2, rf V 18), (3, .int v3), (4, .int v4), (5, .int v5)] [] := by
  intro n
  induction n with
  | zero => intro v3 v4 v5 hf; exact nn hf
  | succ n ih =>
    intro v3 v4 v5 hf
    rw [f_Fe_balanceOf_6_s] at hf
    refine J_iload (pc' := 8) d_Fe_balanceOf_6 rfl 4 rfl ?_
    refine J_aload_n (pc' := 9) d_Fe_balanceOf_8 rfl 1 rfl ?_
    refine J_getI (pc' := 12) d_Fe_balanceOf_9 rfl sh_18 fl_Fe_53 rfl ?_
    refine J_icmp_ge (pc' := 15) (tgt := 76) d_Fe_balanceOf_12 rfl (by decide) (fun hc1 => ?_) (fun hc1 => ?_)
    · have hf := brT hc1 hf
      refine J_iload (pc' := 78) d_Fe_balanceOf_76 rfl 3 rfl ?_
      obtain rfl := Option.some.inj hf
      exact J_iret d_Fe_balanceOf_78
    · have hf := brF hc1 hf
      refine J_aload_n (pc' := 16) d_Fe_balanceOf_15 rfl 1 rfl ?_
      refine J_iload (pc' := 18) d_Fe_balanceOf_16 rfl 4 rfl ?_
      refine J_V (pc' := 21) (as := [.int v5]) (rest := []) (st' := [rf V (f_Ts_at v5)]) d_Fe_balanceOf_18 rfl sh_18 rfl mv_Fe_58 (ct_Ts_at V _ σ v5) rfl rfl ⟨Nat.le_of_ble_eq_true rfl, Nat.le_of_ble_eq_true rfl⟩ ⟨rfl, rfl⟩ (Nat.le_of_ble_eq_true rfl) rfl ?_
      refine J_astore (pc' := 23) (lv' := [(6, rf V (f_Ts_at v5)), (1, rf V 5), (2, rf V 18), (3, .int v3), (4, .int v4), (5, .int v5)]) d_Fe_balanceOf_21 rfl (by decide) rfl ?_
      refine J_aload_n (pc' := 24) d_Fe_balanceOf_23 rfl 1 rfl ?_
      refine J_aload (pc' := 26) d_Fe_balanceOf_24 rfl 0 rfl ?_
      refine J_S (pc' := 29) (as := [rf V 5, rf V (f_Ts_at v5)]) (rest := []) (st' := [.int (f_Fe_fareOf σ (f_Ts_at v5))]) d_Fe_balanceOf_26 rfl ms_Fe_61 (ct_Fe_fareOf V _ σ (f_Ts_at v5) (is_Ts_at v5)) rfl rfl ⟨Nat.le_of_ble_eq_true rfl, Nat.le_of_ble_eq_true rfl⟩ ⟨rfl, rfl⟩ (Nat.le_of_ble_eq_true rfl) rfl ?_
      refine J_istore (pc' := 31) (lv' := [(7, .int (f_Fe_fareOf σ (f_Ts_at v5))), (6, rf V (f_Ts_at v5)), (1, rf V 5), (2, rf V 18), (3, .int v3), (4, .int v4), (5, .int v5)]) d_Fe_balanceOf_29 rfl (by decide) rfl ?_
      refine J_aload_n (pc' := 32) d_Fe_balanceOf_31 rfl 2 rfl ?_
      refine J_aload (pc' := 34) d_Fe_balanceOf_32 rfl 1 rfl ?_
      refine J_getI (pc' := 37) d_Fe_balanceOf_34 rfl (sh_Tr (is_Ts_at v5)) fl_Fe_25 rfl ?_
      refine J_V (pc' := 40) (as := [.int (σ.1 (f_Ts_at v5) 0)]) (rest := []) (st' := [rf V (f_Rs_at (σ.1 (f_Ts_at v5) 0))]) d_Fe_balanceOf_37 rfl sh_5 rfl mv_Fe_37 (ct_Rs_at V _ σ (σ.1 (f_Ts_at v5) 0)) rfl rfl ⟨Nat.le_of_ble_eq_true rfl, Nat.le_of_ble_eq_true rfl⟩ ⟨rfl, rfl⟩ (Nat.le_of_ble_eq_true rfl) rfl ?_
      refine J_getI (pc' := 43) d_Fe_balanceOf_40 rfl (sh_Ro (is_Rs_at (σ.1 (f_Ts_at v5) 0))) fl_Fe_65 rfl ?_
      refine J_iload_n (pc' := 44) d_Fe_balanceOf_43 rfl 4 rfl ?_
      refine J_icmp_ne (pc' := 47) (tgt := 54) d_Fe_balanceOf_44 rfl (by decide) (fun hc2 => ?_) (fun hc2 => ?_)
      · have hf := brF hc2 hf
        refine J_pick [2, 3, 4, 5, 6, 1, 0] rfl ?_
        exact j_Fe_balanceOf_54 ih _ _ _ _ _ (is_Ts_at v5) hf
      · have hf := brT hc2 hf
        refine J_iload (pc' := 49) d_Fe_balanceOf_47 rfl 5 rfl ?_
        refine J_iload (pc' := 51) d_Fe_balanceOf_49 rfl 0 rfl ?_
        refine J_iadd (pc' := 52) d_Fe_balanceOf_51 rfl ?_
        refine J_istore (pc' := 54) (lv' := [(4, .int (v4 + (f_Fe_fareOf σ (f_Ts_at v5)))), (7, .int (f_Fe_fareOf σ (f_Ts_at v5))), (6, rf V (f_Ts_at v5)), (1, rf V 5), (2, rf V 18), (3, .int v3), (5, .int v5)]) d_Fe_balanceOf_52 rfl (by decide) rfl ?_
        refine J_pick [3, 4, 5, 0, 6, 2, 1] rfl ?_
        exact j_Fe_balanceOf_54 ih _ _ _ _ _ (is_Ts_at v5) hf
def f_Fe_balanceOf (σ : Sg) (v3 : Int32) : Option Int32 :=
  f_Fe_balanceOf_6 FU σ v3 0 0
set_option maxHeartbeats 4000000 in
theorem j_Fe_balanceOf {V : Vx} {X : Xx} {r : Int32} (σ : Sg) (v3 : Int32) (hf : f_Fe_balanceOf σ v3 = some r) : J V X (k2_rm 3 64) c_Fe_balanceOf R_Fe 8 (some .int) (Qr V X (some (.int r)) σ) σ 0 [(0, rf V 49), (1, rf V 5), (2, rf V 18), (3, .int v3)] [] := by
  unfold f_Fe_balanceOf at hf
  refine J_iconst (pc' := 1) (v := 0) d_Fe_balanceOf_0 rfl ic_0 ?_
  refine J_istore (pc' := 3) (lv' := [(4, .int 0), (0, rf V 49), (1, rf V 5), (2, rf V 18), (3, .int v3)]) d_Fe_balanceOf_1 rfl (by decide) rfl ?_
  refine J_iconst (pc' := 4) (v := 0) d_Fe_balanceOf_3 rfl ic_0 ?_
  refine J_istore (pc' := 6) (lv' := [(5, .int 0), (4, .int 0), (0, rf V 49), (1, rf V 5), (2, rf V 18), (3, .int v3)]) d_Fe_balanceOf_4 rfl (by decide) rfl ?_
  refine J_pick [3, 4, 5, 1, 0] rfl ?_
  exact j_Fe_balanceOf_6 FU _ _ _ hf
theorem ct_Fe_balanceOf (V : Vx) (l : Launch) (σ : Sg) (v3 : Int32) {r : Int32} (hf : f_Fe_balanceOf σ v3 = some r) : Ct V l y_Fe_balanceOf c_Fe_balanceOf 8 (some .int) (k2_rm 3 64) [rf V 49, rf V 5, rf V 18, .int v3] σ (some (.int r)) σ := Ct.ofJ (by decide +kernel) (Nat.le_of_ble_eq_true rfl) fun X _ => j_Fe_balanceOf _ v3 hf
def f_GR_balance (σ : Sg) (v1 : Int32) : Option Int32 :=
  if (f_GR_isBelow v1 5) = 0 then
    some (-10002)
  else
    (f_Fe_balanceOf σ v1).bind fun r3 =>
      some r3
set_option maxHeartbeats 4000000 in
theorem j_GR_balance {V : Vx} {X : Xx} {r : Int32} (σ : Sg) (v1 : Int32) (hf : f_GR_balance σ v1 = some r) : J V X (k2_rm 4 91) c_GR_balance R_GR 2 (some .int) (Qr V X (some (.int r)) σ) σ 0 [(0, rf V 0), (1, .int v1)] [] := by
  unfold f_GR_balance at hf
  refine J_iload_n (pc' := 1) d_GR_balance_0 rfl 1 rfl ?_
  refine J_iconst (pc' := 2) (v := 5) d_GR_balance_1 rfl ic_5 ?_
  refine J_S (pc' := 5) (as := [.int v1, .int 5]) (rest := []) (st' := [.int (f_GR_isBelow v1 5)]) d_GR_balance_2 rfl ms_GR_67 (ct_GR_isBelow V _ σ v1 5) rfl rfl ⟨Nat.le_of_ble_eq_true rfl, Nat.le_of_ble_eq_true rfl⟩ ⟨rfl, rfl⟩ (Nat.le_of_ble_eq_true rfl) rfl ?_
  refine J_if_ne (pc' := 8) (tgt := 12) d_GR_balance_5 rfl (by decide) (fun hc1 => ?_) (fun hc1 => ?_)
  · have hf := brF hc1 hf
    refine J_aload_n (pc' := 13) d_GR_balance_12 rfl 0 rfl ?_
    refine J_getR (pc' := 16) d_GR_balance_13 rfl sh_0 fl_GR_56 rfl ?_
    refine J_aload_n (pc' := 17) d_GR_balance_16 rfl 0 rfl ?_
    refine J_getR (pc' := 20) d_GR_balance_17 rfl sh_0 fl_GR_24 rfl ?_
    refine J_aload_n (pc' := 21) d_GR_balance_20 rfl 0 rfl ?_
    refine J_getR (pc' := 24) d_GR_balance_21 rfl sh_0 fl_GR_35 rfl ?_
    refine J_iload_n (pc' := 25) d_GR_balance_24 rfl 1 rfl ?_
    obtain ⟨r3, hq2, hf⟩ := bpE hf
    refine J_V (pc' := 28) (as := [rf V 5, rf V 18, .int v1]) (rest := []) (st' := [.int r3]) d_GR_balance_25 rfl sh_49 rfl mv_GR_253 (ct_Fe_balanceOf V _ σ v1 hq2) rfl rfl ⟨Nat.le_of_ble_eq_true rfl, Nat.le_of_ble_eq_true rfl⟩ ⟨rfl, rfl⟩ (Nat.le_of_ble_eq_true rfl) rfl ?_
    obtain rfl := Option.some.inj hf
    exact J_iret d_GR_balance_28
  · have hf := brT hc1 hf
    refine J_sipush (pc' := 11) (v := (-10002)) d_GR_balance_8 rfl sc_m10002 ?_
    obtain rfl := Option.some.inj hf
    exact J_iret d_GR_balance_11
theorem ct_GR_balance (V : Vx) (l : Launch) (σ : Sg) (v1 : Int32) {r : Int32} (hf : f_GR_balance σ v1 = some r) : Ct V l y_GR_balance c_GR_balance 2 (some .int) (k2_rm 4 91) [rf V 0, .int v1] σ (some (.int r)) σ := Ct.ofJ (by decide +kernel) (Nat.le_of_ble_eq_true rfl) fun X _ => j_GR_balance _ v1 hf
def f_Fe_mostGroups_91 (k2 : Sg → Int32 → Option (Int32 × Sg)) (σ : Sg) (v1 : Int32) (s0 : Int32) (s1 : Int32) : Option (Int32 × Sg) :=
  gd (vin s1 32) (
    k2 (pI σ 52 s1.toNatClampNeg s0) (v1 + 1))
set_option maxHeartbeats 4000000 in
theorem j_Fe_mostGroups_91 {V : Vx} {X : Xx} {r : Int32} {σ' : Sg} {k2 : Sg → Int32 → Option (Int32 × Sg)} (hk2 : ∀ (σ : Sg) (v1 : Int32), k2 σ v1 = some (r, σ') → J V X (k2_rm 1 21) c_Fe_mostGroups R_Fe 5 (some .int) (Qr V X (some (.int r)) σ') σ 2 [(0, rf V 49), (1, .int v1)] []) (σ : Sg) (v1 : Int32) (s0 : Int32) (s1 : Int32) (hf : f_Fe_mostGroups_91 k2 σ v1 s0 s1 = some (r, σ')) : J V X (k2_rm 1 21) c_Fe_mostGroups R_Fe 5 (some .int) (Qr V X (some (.int r)) σ') σ 91 [(0, rf V 49), (1, .int v1)] [.int s0, .int s1, rf V 52] := by
  unfold f_Fe_mostGroups_91 at hf
  obtain ⟨hg5, hf⟩ := gdE hf
  refine J_ias (pc' := 92) d_Fe_mostGroups_91 rfl sh_52 (vinP hg5) ?_
  refine J_iinc (pc' := 95) (j := 1) (v := 1) (lv' := [(1, .int (v1 + 1)), (0, rf V 49)]) d_Fe_mostGroups_92 rfl rfl ic_1 (by decide) rfl ?_
  refine J_goto (tgt := 2) d_Fe_mostGroups_95 (by decide) ?_
  refine J_pick [1, 0] rfl ?_
  exact hk2 _ _ hf
def f_Fe_mostGroups_64 (k2 : Sg → Int32 → Option (Int32 × Sg)) (k12 : Sg → Int32 → Int32 → Int32 → Option (Int32 × Sg)) (σ : Sg) (v1 : Int32) (v2 : Int32) (v3 : Int32) : Option (Int32 × Sg) :=
  k12 σ v1 v2 (v3 + 1)
set_option maxHeartbeats 4000000 in
theorem j_Fe_mostGroups_64 {V : Vx} {X : Xx} {r : Int32} {σ' : Sg} {k2 : Sg → Int32 → Option (Int32 × Sg)} {k12 : Sg → Int32 → Int32 → Int32 → Option (Int32 × Sg)} (hk2 : ∀ (σ : Sg) (v1 : Int32), k2 σ v1 = some (r, σ') → J V X (k2_rm 1 21) c_Fe_mostGroups R_Fe 5 (some .int) (Qr V X (some (.int r)) σ') σ 2 [(0, rf V 49), (1, .int v1)] []) (hk12 : ∀ (σ : Sg) (v1 : Int32) (v2 : Int32) (v3 : Int32), k12 σ v1 v2 v3 = some (r, σ') → J V X (k2_rm 1 21) c_Fe_mostGroups R_Fe 5 (some .int) (Qr V X (some (.int r)) σ') σ 12 [(0, rf V 49), (1, .int v1), (2, .int v2), (3, .int v3)] []) (σ : Sg) (v1 : Int32) (v2 : Int32) (v3 : Int32) (hf : f_Fe_mostGroups_64 k2 k12 σ v1 v2 v3 = some (r, σ')) : J V X (k2_rm 1 21) c_Fe_mostGroups R_Fe 5 (some .int) (Qr V X (some (.int r)) σ') σ 64 [(0, rf V 49), (1, .int v1), (2, .int v2), (3, .int v3)] [] := by
  unfold f_Fe_mostGroups_64 at hf
  refine J_iinc (pc' := 67) (j := 3) (v := 1) (lv' := [(3, .int (v3 + 1)), (0, rf V 49), (1, .int v1), (2, .int v2)]) d_Fe_mostGroups_64 rfl rfl ic_1 (by decide) rfl ?_
  refine J_goto (tgt := 12) d_Fe_mostGroups_67 (by decide) ?_
  refine J_pick [1, 2, 3, 0] rfl ?_
  exact hk12 _ _ _ _ hf
def f_Fe_mostGroups_12 (k2 : Sg → Int32 → Option (Int32 × Sg)) : Nat → Sg → Int32 → Int32 → Int32 → Option (Int32 × Sg)
  | 0, _, _, _, _ => none
  | n + 1, σ, v1, v2, v3 =>
    if 5 ≤ v3 then
      gd (vin v1 32) (
        if (σ.1 51 v1.toNatClampNeg) = 0 then f_Fe_mostGroups_91 k2 σ v1 (v2 + 1) v1 else f_Fe_mostGroups_91 k2 σ v1 v2 v1)
    else
      if (v1 &&& ((1 <<< (v3 &&& 31)) ^^^ (-1))) = v1 then
        f_Fe_mostGroups_64 k2 (f_Fe_mostGroups_12 k2 n) σ v1 v2 v3
      else
        gd (vin (v1 &&& ((1 <<< (v3 &&& 31)) ^^^ (-1))) 32) (
          gd (vin v3 5) (
            gd (vin v1 32) (
              gd (vin (v1 &&& ((1 <<< (v3 &&& 31)) ^^^ (-1))) 32) (
                f_Fe_mostGroups_64 k2 (f_Fe_mostGroups_12 k2 n) (pI σ 51 v1.toNatClampNeg ((σ.1 51 (v1 &&& ((1 <<< (v3 &&& 31)) ^^^ (-1))).toNatClampNeg) + (σ.1 50 v3.toNatClampNeg))) v1 (f_JM_max v2 ((pI σ 51 v1.toNatClampNeg ((σ.1 51 (v1 &&& ((1 <<< (v3 &&& 31)) ^^^ (-1))).toNatClampNeg) + (σ.1 50 v3.toNatClampNeg))).1 52 (v1 &&& ((1 <<< (v3 &&& 31)) ^^^ (-1))).toNatClampNeg)) v3))))
theorem f_Fe_mostGroups_12_s (k2 : Sg → Int32 → Option (Int32 × Sg)) (n : Nat) (σ : Sg) (v1 : Int32) (v2 : Int32) (v3 : Int32) : f_Fe_mostGroups_12 k2 (n + 1) σ v1 v2 v3 =
    if 5 ≤ v3 then
      gd (vin v1 32) (
        if (σ.1 51 v1.toNatClampNeg) = 0 then f_Fe_mostGroups_91 k2 σ v1 (v2 + 1) v1 else f_Fe_mostGroups_91 k2 σ v1 v2 v1)
    else
      if (v1 &&& ((1 <<< (v3 &&& 31)) ^^^ (-1))) = v1 then
        f_Fe_mostGroups_64 k2 (f_Fe_mostGroups_12 k2 n) σ v1 v2 v3
      else
        gd (vin (v1 &&& ((1 <<< (v3 &&& 31)) ^^^ (-1))) 32) (
          gd (vin v3 5) (
            gd (vin v1 32) (
              gd (vin (v1 &&& ((1 <<< (v3 &&& 31)) ^^^ (-1))) 32) (
                f_Fe_mostGroups_64 k2 (f_Fe_mostGroups_12 k2 n) (pI σ 51 v1.toNatClampNeg ((σ.1 51 (v1 &&& ((1 <<< (v3 &&& 31)) ^^^ (-1))).toNatClampNeg) + (σ.1 50 v3.toNatClampNeg))) v1 (f_JM_max v2 ((pI σ 51 v1.toNatClampNeg ((σ.1 51 (v1 &&& ((1 <<< (v3 &&& 31)) ^^^ (-1))).toNatClampNeg) + (σ.1 50 v3.toNatClampNeg))).1 52 (v1 &&& ((1 <<< (v3 &&& 31)) ^^^ (-1))).toNatClampNeg)) v3)))) := rfl
set_option maxHeartbeats 4000000 in
theorem j_Fe_mostGroups_12 {V : Vx} {X : Xx} {r : Int32} {σ' : Sg} {k2 : Sg → Int32 → Option (Int32 × Sg)} (hk2 : ∀ (σ : Sg) (v1 : Int32), k2 σ v1 = some (r, σ') → J V X (k2_rm 1 21) c_Fe_mostGroups R_Fe 5 (some .int) (Qr V X (some (.int r)) σ') σ 2 [(0, rf V 49), (1, .int v1)] []) : ∀ (n : Nat) (σ : Sg) (v1 : Int32) (v2 : Int32) (v3 : Int32), f_Fe_mostGroups_12 k2 n σ v1 v2 v3 = some (r, σ') → J V X (k2_rm 1 21) c_Fe_mostGroups R_Fe 5 (some .int) (Qr V X (some (.int r)) σ') σ 12 [(0, rf V 49), (1, .int v1), (2, .int v2), (3, .int v3)] [] := by
  intro n
  induction n with
  | zero => intro σ v1 v2 v3 hf; exact nn hf
  | succ n ih =>
    intro σ v1 v2 v3 hf
    rw [f_Fe_mostGroups_12_s] at hf
    refine J_iload_n (pc' := 13) d_Fe_mostGroups_12 rfl 3 rfl ?_
    refine J_iconst (pc' := 14) (v := 5) d_Fe_mostGroups_13 rfl ic_5 ?_
    refine J_icmp_ge (pc' := 17) (tgt := 70) d_Fe_mostGroups_14 rfl (by decide) (fun hc2 => ?_) (fun hc2 => ?_)
    · have hf := brT hc2 hf
      refine J_aload_n (pc' := 71) d_Fe_mostGroups_70 rfl 0 rfl ?_
      refine J_getR (pc' := 74) d_Fe_mostGroups_71 rfl sh_49 fl_Fe_18 rfl ?_
      refine J_iload_n (pc' := 75) d_Fe_mostGroups_74 rfl 1 rfl ?_
      refine J_aload_n (pc' := 76) d_Fe_mostGroups_75 rfl 0 rfl ?_
      refine J_getR (pc' := 79) d_Fe_mostGroups_76 rfl sh_49 fl_Fe_15 rfl ?_
      refine J_iload_n (pc' := 80) d_Fe_mostGroups_79 rfl 1 rfl ?_
      obtain ⟨hg3, hf⟩ := gdE hf
      refine J_ial (pc' := 81) d_Fe_mostGroups_80 rfl sh_51 (vinP hg3) ?_
      refine J_if_ne (pc' := 84) (tgt := 90) d_Fe_mostGroups_81 rfl (by decide) (fun hc4 => ?_) (fun hc4 => ?_)
      · have hf := brF hc4 hf
        refine J_iload_n (pc' := 91) d_Fe_mostGroups_90 rfl 2 rfl ?_
        refine J_pick [0, 1] rfl ?_
        exact j_Fe_mostGroups_91 hk2 _ _ _ _ hf
      · have hf := brT hc4 hf
        refine J_iload_n (pc' := 85) d_Fe_mostGroups_84 rfl 2 rfl ?_
        refine J_iconst (pc' := 86) (v := 1) d_Fe_mostGroups_85 rfl ic_1 ?_
        refine J_iadd (pc' := 87) d_Fe_mostGroups_86 rfl ?_
        refine J_goto (tgt := 91) d_Fe_mostGroups_87 (by decide) ?_
        refine J_pick [0, 1] rfl ?_
        exact j_Fe_mostGroups_91 hk2 _ _ _ _ hf
    · have hf := brF hc2 hf
      refine J_iload_n (pc' := 18) d_Fe_mostGroups_17 rfl 1 rfl ?_
      refine J_iconst (pc' := 19) (v := 1) d_Fe_mostGroups_18 rfl ic_1 ?_
      refine J_iload_n (pc' := 20) d_Fe_mostGroups_19 rfl 3 rfl ?_
      refine J_ishl (pc' := 21) d_Fe_mostGroups_20 rfl ?_
      refine J_iconst (pc' := 22) (v := (-1)) d_Fe_mostGroups_21 rfl ic_m1 ?_
      refine J_ixor (pc' := 23) d_Fe_mostGroups_22 rfl ?_
      refine J_iand (pc' := 24) d_Fe_mostGroups_23 rfl ?_
      refine J_istore (pc' := 26) (lv' := [(4, .int (v1 &&& ((1 <<< (v3 &&& 31)) ^^^ (-1)))), (0, rf V 49), (1, .int v1), (2, .int v2), (3, .int v3)]) d_Fe_mostGroups_24 rfl (by decide) rfl ?_
      refine J_iload (pc' := 28) d_Fe_mostGroups_26 rfl 0 rfl ?_
      refine J_iload_n (pc' := 29) d_Fe_mostGroups_28 rfl 2 rfl ?_
      refine J_icmp_eq (pc' := 32) (tgt := 64) d_Fe_mostGroups_29 rfl (by decide) (fun hc6 => ?_) (fun hc6 => ?_)
      · have hf := brT hc6 hf
        refine J_pick [1, 2, 3, 4] rfl ?_
        exact j_Fe_mostGroups_64 hk2 ih _ _ _ _ hf
      · have hf := brF hc6 hf
        refine J_aload_n (pc' := 33) d_Fe_mostGroups_32 rfl 1 rfl ?_
        refine J_getR (pc' := 36) d_Fe_mostGroups_33 rfl sh_49 fl_Fe_15 rfl ?_
        refine J_iload_n (pc' := 37) d_Fe_mostGroups_36 rfl 2 rfl ?_
        refine J_aload_n (pc' := 38) d_Fe_mostGroups_37 rfl 1 rfl ?_
        refine J_getR (pc' := 41) d_Fe_mostGroups_38 rfl sh_49 fl_Fe_15 rfl ?_
        refine J_iload (pc' := 43) d_Fe_mostGroups_41 rfl 0 rfl ?_
        obtain ⟨hg7, hf⟩ := gdE hf
        refine J_ial (pc' := 44) d_Fe_mostGroups_43 rfl sh_51 (vinP hg7) ?_
        refine J_aload_n (pc' := 45) d_Fe_mostGroups_44 rfl 1 rfl ?_
        refine J_getR (pc' := 48) d_Fe_mostGroups_45 rfl sh_49 fl_Fe_9 rfl ?_
        refine J_iload_n (pc' := 49) d_Fe_mostGroups_48 rfl 4 rfl ?_
        obtain ⟨hg8, hf⟩ := gdE hf
        refine J_ial (pc' := 50) d_Fe_mostGroups_49 rfl sh_50 (vinP hg8) ?_
        refine J_iadd (pc' := 51) d_Fe_mostGroups_50 rfl ?_
        obtain ⟨hg9, hf⟩ := gdE hf
        refine J_ias (pc' := 52) d_Fe_mostGroups_51 rfl sh_51 (vinP hg9) ?_
        refine J_iload_n (pc' := 53) d_Fe_mostGroups_52 rfl 3 rfl ?_
        refine J_aload_n (pc' := 54) d_Fe_mostGroups_53 rfl 1 rfl ?_
        refine J_getR (pc' := 57) d_Fe_mostGroups_54 rfl sh_49 fl_Fe_18 rfl ?_
        refine J_iload (pc' := 59) d_Fe_mostGroups_57 rfl 0 rfl ?_
        obtain ⟨hg10, hf⟩ := gdE hf
        refine J_ial (pc' := 60) d_Fe_mostGroups_59 rfl sh_52 (vinP hg10) ?_
        refine J_S (pc' := 63) (as := [.int v2, .int ((pI σ 51 v1.toNatClampNeg ((σ.1 51 (v1 &&& ((1 <<< (v3 &&& 31)) ^^^ (-1))).toNatClampNeg) + (σ.1 50 v3.toNatClampNeg))).1 52 (v1 &&& ((1 <<< (v3 &&& 31)) ^^^ (-1))).toNatClampNeg)]) (rest := []) (st' := [.int (f_JM_max v2 ((pI σ 51 v1.toNatClampNeg ((σ.1 51 (v1 &&& ((1 <<< (v3 &&& 31)) ^^^ (-1))).toNatClampNeg) + (σ.1 50 v3.toNatClampNeg))).1 52 (v1 &&& ((1 <<< (v3 &&& 31)) ^^^ (-1))).toNatClampNeg))]) d_Fe_mostGroups_60 rfl ms_Fe_77 (ct_JM_max V _ (pI σ 51 v1.toNatClampNeg ((σ.1 51 (v1 &&& ((1 <<< (v3 &&& 31)) ^^^ (-1))).toNatClampNeg) + (σ.1 50 v3.toNatClampNeg))) v2 ((pI σ 51 v1.toNatClampNeg ((σ.1 51 (v1 &&& ((1 <<< (v3 &&& 31)) ^^^ (-1))).toNatClampNeg) + (σ.1 50 v3.toNatClampNeg))).1 52 (v1 &&& ((1 <<< (v3 &&& 31)) ^^^ (-1))).toNatClampNeg)) rfl rfl ⟨Nat.le_of_ble_eq_true rfl, Nat.le_of_ble_eq_true rfl⟩ ⟨rfl, rfl⟩ (Nat.le_of_ble_eq_true rfl) rfl ?_
        refine J_istore_n (pc' := 64) (lv' := [(2, .int (f_JM_max v2 ((pI σ 51 v1.toNatClampNeg ((σ.1 51 (v1 &&& ((1 <<< (v3 &&& 31)) ^^^ (-1))).toNatClampNeg) + (σ.1 50 v3.toNatClampNeg))).1 52 (v1 &&& ((1 <<< (v3 &&& 31)) ^^^ (-1))).toNatClampNeg))), (4, .int (v1 &&& ((1 <<< (v3 &&& 31)) ^^^ (-1)))), (0, rf V 49), (1, .int v1), (3, .int v3)]) d_Fe_mostGroups_63 rfl rfl (by decide) rfl ?_
        refine J_pick [2, 3, 0, 4] rfl ?_
        exact j_Fe_mostGroups_64 hk2 ih _ _ _ _ hf
def f_Fe_mostGroups_2 : Nat → Sg → Int32 → Option (Int32 × Sg)
  | 0, _, _ => none
  | n + 1, σ, v1 =>
    if 32 ≤ v1 then some (σ.1 52 31, σ) else f_Fe_mostGroups_12 (f_Fe_mostGroups_2 n) FU σ v1 0 0
theorem f_Fe_mostGroups_2_s (n : Nat) (σ : Sg) (v1 : Int32) : f_Fe_mostGroups_2 (n + 1) σ v1 =
    if 32 ≤ v1 then some (σ.1 52 31, σ) else f_Fe_mostGroups_12 (f_Fe_mostGroups_2 n) FU σ v1 0 0 := rfl
set_option maxHeartbeats 4000000 in
theorem j_Fe_mostGroups_2 {V : Vx} {X : Xx} {r : Int32} {σ' : Sg}  : ∀ (n : Nat) (σ : Sg) (v1 : Int32), f_Fe_mostGroups_2 n σ v1 = some (r, σ') → J V X (k2_rm 1 21) c_Fe_mostGroups R_Fe 5 (some .int) (Qr V X (some (.int r)) σ') σ 2 [(0, rf V 49), (1, .int v1)] [] := by
  intro n
  induction n with
  | zero => intro σ v1 hf; exact nn hf
  | succ n ih =>
    intro σ v1 hf
    rw [f_Fe_mostGroups_2_s] at hf
    refine J_iload_n (pc' := 3) d_Fe_mostGroups_2 rfl 1 rfl ?_
    refine J_bipush (pc' := 5) (v := 32) d_Fe_mostGroups_3 rfl bc_32 ?_
    refine J_icmp_ge (pc' := 8) (tgt := 98) d_Fe_mostGroups_5 rfl (by decide) (fun hc1 => ?_) (fun hc1 => ?_)
    · have hf := brT hc1 hf
      refine J_aload_n (pc' := 99) d_Fe_mostGroups_98 rfl 0 rfl ?_
      refine J_getR (pc' := 102) d_Fe_mostGroups_99 rfl sh_49 fl_Fe_18 rfl ?_
      refine J_bipush (pc' := 104) (v := 31) d_Fe_mostGroups_102 rfl bc_31 ?_
      refine J_ial (pc' := 105) d_Fe_mostGroups_104 rfl sh_52 (vin_c (by decide)) ?_
      obtain ⟨rfl, rfl⟩ := resE hf
      exact J_iret d_Fe_mostGroups_105
    · have hf := brF hc1 hf
      refine J_iconst (pc' := 9) (v := 0) d_Fe_mostGroups_8 rfl ic_0 ?_
      refine J_istore_n (pc' := 10) (lv' := [(2, .int 0), (0, rf V 49), (1, .int v1)]) d_Fe_mostGroups_9 rfl rfl (by decide) rfl ?_
      refine J_iconst (pc' := 11) (v := 0) d_Fe_mostGroups_10 rfl ic_0 ?_
      refine J_istore_n (pc' := 12) (lv' := [(3, .int 0), (2, .int 0), (0, rf V 49), (1, .int v1)]) d_Fe_mostGroups_11 rfl rfl (by decide) rfl ?_
      refine J_pick [2, 3, 1, 0] rfl ?_
      exact j_Fe_mostGroups_12 ih FU _ _ _ _ hf
def f_Fe_mostGroups (σ : Sg)  : Option (Int32 × Sg) :=
  f_Fe_mostGroups_2 FU σ 1
set_option maxHeartbeats 4000000 in
theorem j_Fe_mostGroups {V : Vx} {X : Xx} {r : Int32} {σ' : Sg} (σ : Sg) (hf : f_Fe_mostGroups σ = some (r, σ')) : J V X (k2_rm 1 21) c_Fe_mostGroups R_Fe 5 (some .int) (Qr V X (some (.int r)) σ') σ 0 [(0, rf V 49)] [] := by
  unfold f_Fe_mostGroups at hf
  refine J_iconst (pc' := 1) (v := 1) d_Fe_mostGroups_0 rfl ic_1 ?_
  refine J_istore_n (pc' := 2) (lv' := [(1, .int 1), (0, rf V 49)]) d_Fe_mostGroups_1 rfl rfl (by decide) rfl ?_
  refine J_pick [1, 0] rfl ?_
  exact j_Fe_mostGroups_2 FU _ _ hf
theorem ct_Fe_mostGroups (V : Vx) (l : Launch) (σ : Sg) {r : Int32} {σ' : Sg} (hf : f_Fe_mostGroups σ = some (r, σ')) : Ct V l y_Fe_mostGroups c_Fe_mostGroups 5 (some .int) (k2_rm 1 21) [rf V 49] σ (some (.int r)) σ' := Ct.ofJ (by decide +kernel) (Nat.le_of_ble_eq_true rfl) fun X _ => j_Fe_mostGroups _  hf
def f_Fe_payments_2 : Nat → Sg → Int32 → Option (Int32 × Sg)
  | 0, _, _ => none
  | n + 1, σ, v3 =>
    if 5 ≤ v3 then
      bd (f_Fe_mostGroups σ) fun r4 σ3 =>
        some (5 - r4, σ3)
    else
      (f_Fe_balanceOf σ v3).bind fun r6 =>
        gd (vin v3 5) (
          f_Fe_payments_2 n (pI σ 50 v3.toNatClampNeg r6) (v3 + 1))
theorem f_Fe_payments_2_s (n : Nat) (σ : Sg) (v3 : Int32) : f_Fe_payments_2 (n + 1) σ v3 =
    if 5 ≤ v3 then
      bd (f_Fe_mostGroups σ) fun r4 σ3 =>
        some (5 - r4, σ3)
    else
      (f_Fe_balanceOf σ v3).bind fun r6 =>
        gd (vin v3 5) (
          f_Fe_payments_2 n (pI σ 50 v3.toNatClampNeg r6) (v3 + 1)) := rfl
set_option maxHeartbeats 4000000 in
theorem j_Fe_payments_2 {V : Vx} {X : Xx} {r : Int32} {σ' : Sg}  : ∀ (n : Nat) (σ : Sg) (v3 : Int32), f_Fe_payments_2 n σ v3 = some (r, σ') → J V X (k2_rm 4 91) c_Fe_payments R_Fe 4 (some .int) (Qr V X (some (.int r)) σ') σ 2 [(0, rf V 49), (1, rf V 5), (2, rf V 18), (3, .int v3)] [] := by
  intro n
  induction n with
  | zero => intro σ v3 hf; exact nn hf
  | succ n ih =>
    intro σ v3 hf
    rw [f_Fe_payments_2_s] at hf
    refine J_iload_n (pc' := 3) d_Fe_payments_2 rfl 3 rfl ?_
    refine J_iconst (pc' := 4) (v := 5) d_Fe_payments_3 rfl ic_5 ?_
    refine J_icmp_ge (pc' := 7) (tgt := 26) d_Fe_payments_4 rfl (by decide) (fun hc1 => ?_) (fun hc1 => ?_)
    · have hf := brT hc1 hf
      refine J_iconst (pc' := 27) (v := 5) d_Fe_payments_26 rfl ic_5 ?_
      refine J_aload_n (pc' := 28) d_Fe_payments_27 rfl 0 rfl ?_
      obtain ⟨r4, σ3, hq2, hf⟩ := bdE hf
      refine J_V (pc' := 31) (as := []) (rest := [.int 5]) (st' := [.int r4, .int 5]) d_Fe_payments_28 rfl sh_49 rfl mv_Fe_73 (ct_Fe_mostGroups V _ σ hq2) rfl rfl ⟨Nat.le_of_ble_eq_true rfl, Nat.le_of_ble_eq_true rfl⟩ ⟨rfl, rfl⟩ (Nat.le_of_ble_eq_true rfl) rfl ?_
      refine J_isub (pc' := 32) d_Fe_payments_31 rfl ?_
      obtain ⟨rfl, rfl⟩ := resE hf
      exact J_iret d_Fe_payments_32
    · have hf := brF hc1 hf
      refine J_aload_n (pc' := 8) d_Fe_payments_7 rfl 0 rfl ?_
      refine J_getR (pc' := 11) d_Fe_payments_8 rfl sh_49 fl_Fe_9 rfl ?_
      refine J_iload_n (pc' := 12) d_Fe_payments_11 rfl 3 rfl ?_
      refine J_aload_n (pc' := 13) d_Fe_payments_12 rfl 0 rfl ?_
      refine J_aload_n (pc' := 14) d_Fe_payments_13 rfl 1 rfl ?_
      refine J_aload_n (pc' := 15) d_Fe_payments_14 rfl 2 rfl ?_
      refine J_iload_n (pc' := 16) d_Fe_payments_15 rfl 3 rfl ?_
      obtain ⟨r6, hq5, hf⟩ := bpE hf
      refine J_V (pc' := 19) (as := [rf V 5, rf V 18, .int v3]) (rest := [.int v3, rf V 50]) (st' := [.int r6, .int v3, rf V 50]) d_Fe_payments_16 rfl sh_49 rfl mv_Fe_69 (ct_Fe_balanceOf V _ σ v3 hq5) rfl rfl ⟨Nat.le_of_ble_eq_true rfl, Nat.le_of_ble_eq_true rfl⟩ ⟨rfl, rfl⟩ (Nat.le_of_ble_eq_true rfl) rfl ?_
      obtain ⟨hg7, hf⟩ := gdE hf
      refine J_ias (pc' := 20) d_Fe_payments_19 rfl sh_50 (vinP hg7) ?_
      refine J_iinc (pc' := 23) (j := 3) (v := 1) (lv' := [(3, .int (v3 + 1)), (0, rf V 49), (1, rf V 5), (2, rf V 18)]) d_Fe_payments_20 rfl rfl ic_1 (by decide) rfl ?_
      refine J_goto (tgt := 2) d_Fe_payments_23 (by decide) ?_
      refine J_pick [1, 2, 3, 0] rfl ?_
      exact ih _ _ hf
def f_Fe_payments (σ : Sg)  : Option (Int32 × Sg) :=
  f_Fe_payments_2 FU σ 0
set_option maxHeartbeats 4000000 in
theorem j_Fe_payments {V : Vx} {X : Xx} {r : Int32} {σ' : Sg} (σ : Sg) (hf : f_Fe_payments σ = some (r, σ')) : J V X (k2_rm 4 91) c_Fe_payments R_Fe 4 (some .int) (Qr V X (some (.int r)) σ') σ 0 [(0, rf V 49), (1, rf V 5), (2, rf V 18)] [] := by
  unfold f_Fe_payments at hf
  refine J_iconst (pc' := 1) (v := 0) d_Fe_payments_0 rfl ic_0 ?_
  refine J_istore_n (pc' := 2) (lv' := [(3, .int 0), (0, rf V 49), (1, rf V 5), (2, rf V 18)]) d_Fe_payments_1 rfl rfl (by decide) rfl ?_
  refine J_pick [1, 2, 3, 0] rfl ?_
  exact j_Fe_payments_2 FU _ _ hf
theorem ct_Fe_payments (V : Vx) (l : Launch) (σ : Sg) {r : Int32} {σ' : Sg} (hf : f_Fe_payments σ = some (r, σ')) : Ct V l y_Fe_payments c_Fe_payments 4 (some .int) (k2_rm 4 91) [rf V 49, rf V 5, rf V 18] σ (some (.int r)) σ' := Ct.ofJ (by decide +kernel) (Nat.le_of_ble_eq_true rfl) fun X _ => j_Fe_payments _  hf
def f_GR_settled (σ : Sg)  : Option (Int32 × Sg) :=
  bd (f_Fe_payments σ) fun r3 σ2 =>
    some (r3, σ2)
set_option maxHeartbeats 4000000 in
theorem j_GR_settled {V : Vx} {X : Xx} {r : Int32} {σ' : Sg} (σ : Sg) (hf : f_GR_settled σ = some (r, σ')) : J V X (k2_rm 5 114) c_GR_settled R_GR 1 (some .int) (Qr V X (some (.int r)) σ') σ 0 [(0, rf V 0)] [] := by
  unfold f_GR_settled at hf
  refine J_aload_n (pc' := 1) d_GR_settled_0 rfl 0 rfl ?_
  refine J_getR (pc' := 4) d_GR_settled_1 rfl sh_0 fl_GR_56 rfl ?_
  refine J_aload_n (pc' := 5) d_GR_settled_4 rfl 0 rfl ?_
  refine J_getR (pc' := 8) d_GR_settled_5 rfl sh_0 fl_GR_24 rfl ?_
  refine J_aload_n (pc' := 9) d_GR_settled_8 rfl 0 rfl ?_
  refine J_getR (pc' := 12) d_GR_settled_9 rfl sh_0 fl_GR_35 rfl ?_
  obtain ⟨r3, σ2, hq1, hf⟩ := bdE hf
  refine J_V (pc' := 15) (as := [rf V 5, rf V 18]) (rest := []) (st' := [.int r3]) d_GR_settled_12 rfl sh_49 rfl mv_GR_256 (ct_Fe_payments V _ σ hq1) rfl rfl ⟨Nat.le_of_ble_eq_true rfl, Nat.le_of_ble_eq_true rfl⟩ ⟨rfl, rfl⟩ (Nat.le_of_ble_eq_true rfl) rfl ?_
  obtain ⟨rfl, rfl⟩ := resE hf
  exact J_iret d_GR_settled_15
theorem ct_GR_settled (V : Vx) (l : Launch) (σ : Sg) {r : Int32} {σ' : Sg} (hf : f_GR_settled σ = some (r, σ')) : Ct V l y_GR_settled c_GR_settled 1 (some .int) (k2_rm 5 114) [rf V 0] σ (some (.int r)) σ' := Ct.ofJ (by decide +kernel) (Nat.le_of_ble_eq_true rfl) fun X _ => j_GR_settled _  hf
def f_Fe_addTrip_46 (k3 : Sg → Int32 → Int32 → Option Sg) (σ : Sg) (v1 : Int32) (v2 : Int32) (v3 : Int64) : Option Sg :=
  gd (vin v2 100) (
    k3 (pL σ 53 v2.toNatClampNeg v3) v1 (v2 + (-1)))
set_option maxHeartbeats 4000000 in
theorem j_Fe_addTrip_46 {V : Vx} {X : Xx} {σ' : Sg} {k3 : Sg → Int32 → Int32 → Option Sg} (hk3 : ∀ (σ : Sg) (v1 : Int32) (v2 : Int32), k3 σ v1 v2 = some σ' → J V X (k2_rm 0 0) c_Fe_addTrip R_Fe 6 none (Qr V X none σ') σ 3 [(0, rf V 49), (1, .int v1), (2, .int v2)] []) (σ : Sg) (v1 : Int32) (v2 : Int32) (v3 : Int64) (hf : f_Fe_addTrip_46 k3 σ v1 v2 v3 = some σ') : J V X (k2_rm 0 0) c_Fe_addTrip R_Fe 6 none (Qr V X none σ') σ 46 [(0, rf V 49), (1, .int v1), (2, .int v2), (3, .long v3)] [] := by
  unfold f_Fe_addTrip_46 at hf
  refine J_aload_n (pc' := 47) d_Fe_addTrip_46 rfl 0 rfl ?_
  refine J_getR (pc' := 50) d_Fe_addTrip_47 rfl sh_49 fl_Fe_21 rfl ?_
  refine J_iload_n (pc' := 51) d_Fe_addTrip_50 rfl 2 rfl ?_
  refine J_lload_n (pc' := 52) d_Fe_addTrip_51 rfl 3 rfl ?_
  obtain ⟨hg3, hf⟩ := gdE hf
  refine J_las (pc' := 53) d_Fe_addTrip_52 rfl sh_53 (vinP hg3) ?_
  refine J_iinc (pc' := 56) (j := 2) (v := (-1)) (lv' := [(2, .int (v2 + (-1))), (0, rf V 49), (1, .int v1), (3, .long v3)]) d_Fe_addTrip_53 rfl rfl ic_m1 (by decide) rfl ?_
  refine J_goto (tgt := 3) d_Fe_addTrip_56 (by decide) ?_
  refine J_pick [1, 2, 0] rfl ?_
  exact hk3 _ _ _ hf
def f_Fe_addTrip_12 (k3 : Sg → Int32 → Int32 → Option Sg) : Nat → Sg → Int32 → Int32 → Int64 → Int32 → Option Sg
  | 0, _, _, _, _, _ => none
  | n + 1, σ, v1, v2, v3, v5 =>
    if v1 < v5 then
      f_Fe_addTrip_46 k3 σ v1 v2 v3
    else
      if v2 < (v5 + 1) then
        f_Fe_addTrip_46 k3 σ v1 v2 v3
      else
        gd (vin ((v2 - v5) - 1) 100) (
          f_Fe_addTrip_12 k3 n σ v1 v2 (v3 + (σ.2 53 ((v2 - v5) - 1).toNatClampNeg)) (v5 + 1))
theorem f_Fe_addTrip_12_s (k3 : Sg → Int32 → Int32 → Option Sg) (n : Nat) (σ : Sg) (v1 : Int32) (v2 : Int32) (v3 : Int64) (v5 : Int32) : f_Fe_addTrip_12 k3 (n + 1) σ v1 v2 v3 v5 =
    if v1 < v5 then
      f_Fe_addTrip_46 k3 σ v1 v2 v3
    else
      if v2 < (v5 + 1) then
        f_Fe_addTrip_46 k3 σ v1 v2 v3
      else
        gd (vin ((v2 - v5) - 1) 100) (
          f_Fe_addTrip_12 k3 n σ v1 v2 (v3 + (σ.2 53 ((v2 - v5) - 1).toNatClampNeg)) (v5 + 1)) := rfl
set_option maxHeartbeats 4000000 in
theorem j_Fe_addTrip_12 {V : Vx} {X : Xx} {σ' : Sg} {k3 : Sg → Int32 → Int32 → Option Sg} (hk3 : ∀ (σ : Sg) (v1 : Int32) (v2 : Int32), k3 σ v1 v2 = some σ' → J V X (k2_rm 0 0) c_Fe_addTrip R_Fe 6 none (Qr V X none σ') σ 3 [(0, rf V 49), (1, .int v1), (2, .int v2)] []) : ∀ (n : Nat) (σ : Sg) (v1 : Int32) (v2 : Int32) (v3 : Int64) (v5 : Int32), f_Fe_addTrip_12 k3 n σ v1 v2 v3 v5 = some σ' → J V X (k2_rm 0 0) c_Fe_addTrip R_Fe 6 none (Qr V X none σ') σ 12 [(0, rf V 49), (1, .int v1), (2, .int v2), (3, .long v3), (5, .int v5)] [] := by
  intro n
  induction n with
  | zero => intro σ v1 v2 v3 v5 hf; exact nn hf
  | succ n ih =>
    intro σ v1 v2 v3 v5 hf
    rw [f_Fe_addTrip_12_s] at hf
    refine J_iload (pc' := 14) d_Fe_addTrip_12 rfl 4 rfl ?_
    refine J_iload_n (pc' := 15) d_Fe_addTrip_14 rfl 1 rfl ?_
    refine J_icmp_gt (pc' := 18) (tgt := 46) d_Fe_addTrip_15 rfl (by decide) (fun hc2 => ?_) (fun hc2 => ?_)
    · have hf := brT hc2 hf
      refine J_pick [0, 1, 2, 3] rfl ?_
      exact j_Fe_addTrip_46 hk3 _ _ _ _ hf
    · have hf := brF hc2 hf
      refine J_iload (pc' := 20) d_Fe_addTrip_18 rfl 4 rfl ?_
      refine J_iconst (pc' := 21) (v := 1) d_Fe_addTrip_20 rfl ic_1 ?_
      refine J_iadd (pc' := 22) d_Fe_addTrip_21 rfl ?_
      refine J_iload_n (pc' := 23) d_Fe_addTrip_22 rfl 2 rfl ?_
      refine J_icmp_gt (pc' := 26) (tgt := 46) d_Fe_addTrip_23 rfl (by decide) (fun hc4 => ?_) (fun hc4 => ?_)
      · have hf := brT hc4 hf
        refine J_pick [0, 1, 2, 3] rfl ?_
        exact j_Fe_addTrip_46 hk3 _ _ _ _ hf
      · have hf := brF hc4 hf
        refine J_lload_n (pc' := 27) d_Fe_addTrip_26 rfl 3 rfl ?_
        refine J_aload_n (pc' := 28) d_Fe_addTrip_27 rfl 0 rfl ?_
        refine J_getR (pc' := 31) d_Fe_addTrip_28 rfl sh_49 fl_Fe_21 rfl ?_
        refine J_iload_n (pc' := 32) d_Fe_addTrip_31 rfl 2 rfl ?_
        refine J_iload (pc' := 34) d_Fe_addTrip_32 rfl 4 rfl ?_
        refine J_isub (pc' := 35) d_Fe_addTrip_34 rfl ?_
        refine J_iconst (pc' := 36) (v := 1) d_Fe_addTrip_35 rfl ic_1 ?_
        refine J_isub (pc' := 37) d_Fe_addTrip_36 rfl ?_
        obtain ⟨hg5, hf⟩ := gdE hf
        refine J_lal (pc' := 38) d_Fe_addTrip_37 rfl sh_53 (vinP hg5) ?_
        refine J_ladd (pc' := 39) d_Fe_addTrip_38 rfl ?_
        refine J_lstore_n (pc' := 40) (lv' := [(3, .long (v3 + (σ.2 53 ((v2 - v5) - 1).toNatClampNeg))), (0, rf V 49), (1, .int v1), (2, .int v2), (5, .int v5)]) d_Fe_addTrip_39 rfl rfl (by decide) rfl ?_
        refine J_iinc (pc' := 43) (j := 4) (v := 1) (lv' := [(5, .int (v5 + 1)), (3, .long (v3 + (σ.2 53 ((v2 - v5) - 1).toNatClampNeg))), (0, rf V 49), (1, .int v1), (2, .int v2)]) d_Fe_addTrip_40 rfl rfl ic_1 (by decide) rfl ?_
        refine J_goto (tgt := 12) d_Fe_addTrip_43 (by decide) ?_
        refine J_pick [2, 3, 4, 1, 0] rfl ?_
        exact ih _ _ _ _ _ hf
def f_Fe_addTrip_3 : Nat → Sg → Int32 → Int32 → Option Sg
  | 0, _, _, _ => none
  | n + 1, σ, v1, v2 =>
    if v2 < 0 then some σ else f_Fe_addTrip_12 (f_Fe_addTrip_3 n) FU σ v1 v2 0 0
theorem f_Fe_addTrip_3_s (n : Nat) (σ : Sg) (v1 : Int32) (v2 : Int32) : f_Fe_addTrip_3 (n + 1) σ v1 v2 =
    if v2 < 0 then some σ else f_Fe_addTrip_12 (f_Fe_addTrip_3 n) FU σ v1 v2 0 0 := rfl
set_option maxHeartbeats 4000000 in
theorem j_Fe_addTrip_3 {V : Vx} {X : Xx} {σ' : Sg}  : ∀ (n : Nat) (σ : Sg) (v1 : Int32) (v2 : Int32), f_Fe_addTrip_3 n σ v1 v2 = some σ' → J V X (k2_rm 0 0) c_Fe_addTrip R_Fe 6 none (Qr V X none σ') σ 3 [(0, rf V 49), (1, .int v1), (2, .int v2)] [] := by
  intro n
  induction n with
  | zero => intro σ v1 v2 hf; exact nn hf
  | succ n ih =>
    intro σ v1 v2 hf
    rw [f_Fe_addTrip_3_s] at hf
    refine J_iload_n (pc' := 4) d_Fe_addTrip_3 rfl 2 rfl ?_
    refine J_if_lt (pc' := 7) (tgt := 59) d_Fe_addTrip_4 rfl (by decide) (fun hc1 => ?_) (fun hc1 => ?_)
    · have hf := brT hc1 hf
      obtain rfl := Option.some.inj hf
      exact J_vret d_Fe_addTrip_59
    · have hf := brF hc1 hf
      refine J_lconst (pc' := 8) (v := 0) d_Fe_addTrip_7 rfl lc_0 ?_
      refine J_lstore_n (pc' := 9) (lv' := [(3, .long 0), (0, rf V 49), (1, .int v1), (2, .int v2)]) d_Fe_addTrip_8 rfl rfl (by decide) rfl ?_
      refine J_iconst (pc' := 10) (v := 0) d_Fe_addTrip_9 rfl ic_0 ?_
      refine J_istore (pc' := 12) (lv' := [(5, .int 0), (3, .long 0), (0, rf V 49), (1, .int v1), (2, .int v2)]) d_Fe_addTrip_10 rfl (by decide) rfl ?_
      refine J_pick [2, 3, 4, 1, 0] rfl ?_
      exact j_Fe_addTrip_12 ih FU _ _ _ _ _ hf
def f_Fe_addTrip (σ : Sg) (v1 : Int32) : Option Sg :=
  f_Fe_addTrip_3 FU σ v1 99
set_option maxHeartbeats 4000000 in
theorem j_Fe_addTrip {V : Vx} {X : Xx} {σ' : Sg} (σ : Sg) (v1 : Int32) (hf : f_Fe_addTrip σ v1 = some σ') : J V X (k2_rm 0 0) c_Fe_addTrip R_Fe 6 none (Qr V X none σ') σ 0 [(0, rf V 49), (1, .int v1)] [] := by
  unfold f_Fe_addTrip at hf
  refine J_bipush (pc' := 2) (v := 99) d_Fe_addTrip_0 rfl bc_99 ?_
  refine J_istore_n (pc' := 3) (lv' := [(2, .int 99), (0, rf V 49), (1, .int v1)]) d_Fe_addTrip_2 rfl rfl (by decide) rfl ?_
  refine J_pick [1, 2, 0] rfl ?_
  exact j_Fe_addTrip_3 FU _ _ _ hf
theorem ct_Fe_addTrip (V : Vx) (l : Launch) (σ : Sg) (v1 : Int32) {σ' : Sg} (hf : f_Fe_addTrip σ v1 = some σ') : Ct V l y_Fe_addTrip c_Fe_addTrip 6 none (k2_rm 0 0) [rf V 49, .int v1] σ none σ' := Ct.ofJ (by decide +kernel) (Nat.le_of_ble_eq_true rfl) fun X _ => j_Fe_addTrip _ v1 hf
def f_Fe_ways_34 : Nat → Sg → Int32 → Int32 → Int32 → Int32 → Option (Int64 × Sg)
  | 0, _, _, _, _, _ => none
  | n + 1, σ, v1, v2, v3, v4 =>
    if v2 ≤ v4 then
      if (f_GR_isBelow v3 100) = 0 then some (0, σ) else some (σ.2 53 v3.toNatClampNeg, σ)
    else
      (f_Fe_addTrip σ v1).bind fun σ5 =>
        f_Fe_ways_34 n σ5 v1 v2 v3 (v4 + 1)
theorem f_Fe_ways_34_s (n : Nat) (σ : Sg) (v1 : Int32) (v2 : Int32) (v3 : Int32) (v4 : Int32) : f_Fe_ways_34 (n + 1) σ v1 v2 v3 v4 =
    if v2 ≤ v4 then
      if (f_GR_isBelow v3 100) = 0 then some (0, σ) else some (σ.2 53 v3.toNatClampNeg, σ)
    else
      (f_Fe_addTrip σ v1).bind fun σ5 =>
        f_Fe_ways_34 n σ5 v1 v2 v3 (v4 + 1) := rfl
set_option maxHeartbeats 4000000 in
theorem j_Fe_ways_34 {V : Vx} {X : Xx} {r : Int64} {σ' : Sg}  : ∀ (n : Nat) (σ : Sg) (v1 : Int32) (v2 : Int32) (v3 : Int32) (v4 : Int32), f_Fe_ways_34 n σ v1 v2 v3 v4 = some (r, σ') → J V X (k2_rm 1 25) c_Fe_ways R_Fe 5 (some .long) (Qr V X (some (.long r)) σ') σ 34 [(0, rf V 49), (1, .int v1), (2, .int v2), (3, .int v3), (4, .int v4)] [] := by
  intro n
  induction n with
  | zero => intro σ v1 v2 v3 v4 hf; exact nn hf
  | succ n ih =>
    intro σ v1 v2 v3 v4 hf
    rw [f_Fe_ways_34_s] at hf
    refine J_iload (pc' := 36) d_Fe_ways_34 rfl 4 rfl ?_
    refine J_iload_n (pc' := 37) d_Fe_ways_36 rfl 2 rfl ?_
    refine J_icmp_ge (pc' := 40) (tgt := 51) d_Fe_ways_37 rfl (by decide) (fun hc2 => ?_) (fun hc2 => ?_)
    · have hf := brT hc2 hf
      refine J_iload_n (pc' := 52) d_Fe_ways_51 rfl 3 rfl ?_
      refine J_bipush (pc' := 54) (v := 100) d_Fe_ways_52 rfl bc_100 ?_
      refine J_S (pc' := 57) (as := [.int v3, .int 100]) (rest := []) (st' := [.int (f_GR_isBelow v3 100)]) d_Fe_ways_54 rfl ms_Fe_86 (ct_GR_isBelow V _ σ v3 100) rfl rfl ⟨Nat.le_of_ble_eq_true rfl, Nat.le_of_ble_eq_true rfl⟩ ⟨rfl, rfl⟩ (Nat.le_of_ble_eq_true rfl) rfl ?_
      refine J_if_eq (pc' := 60) (tgt := 69) d_Fe_ways_57 rfl (by decide) (fun hc3 => ?_) (fun hc3 => ?_)
      · have hf := brT hc3 hf
        refine J_lconst (pc' := 70) (v := 0) d_Fe_ways_69 rfl lc_0 ?_
        obtain ⟨rfl, rfl⟩ := resE hf
        exact J_lret d_Fe_ways_70
      · have hf := brF hc3 hf
        refine J_aload_n (pc' := 61) d_Fe_ways_60 rfl 0 rfl ?_
        refine J_getR (pc' := 64) d_Fe_ways_61 rfl sh_49 fl_Fe_21 rfl ?_
        refine J_iload_n (pc' := 65) d_Fe_ways_64 rfl 3 rfl ?_
        refine J_lal (pc' := 66) d_Fe_ways_65 rfl sh_53 (vin_b hc3) ?_
        refine J_goto (tgt := 70) d_Fe_ways_66 (by decide) ?_
        obtain ⟨rfl, rfl⟩ := resE hf
        exact J_lret d_Fe_ways_70
    · have hf := brF hc2 hf
      refine J_aload_n (pc' := 41) d_Fe_ways_40 rfl 0 rfl ?_
      refine J_iload_n (pc' := 42) d_Fe_ways_41 rfl 1 rfl ?_
      obtain ⟨σ5, hq4, hf⟩ := bpE hf
      refine J_V (pc' := 45) (as := [.int v1]) (rest := []) (st' := []) d_Fe_ways_42 rfl sh_49 rfl mv_Fe_82 (ct_Fe_addTrip V _ σ v1 hq4) rfl rfl ⟨Nat.le_of_ble_eq_true rfl, Nat.le_of_ble_eq_true rfl⟩ ⟨rfl, rfl⟩ (Nat.le_of_ble_eq_true rfl) rfl ?_
      refine J_iinc (pc' := 48) (j := 4) (v := 1) (lv' := [(4, .int (v4 + 1)), (0, rf V 49), (1, .int v1), (2, .int v2), (3, .int v3)]) d_Fe_ways_45 rfl rfl ic_1 (by decide) rfl ?_
      refine J_goto (tgt := 34) d_Fe_ways_48 (by decide) ?_
      refine J_pick [1, 2, 3, 4, 0] rfl ?_
      exact ih _ _ _ _ _ hf
def f_Fe_ways_3 : Nat → Sg → Int32 → Int32 → Int32 → Int32 → Option (Int64 × Sg)
  | 0, _, _, _, _, _ => none
  | n + 1, σ, v1, v2, v3, v4 =>
    if 100 ≤ v4 then
      f_Fe_ways_34 FU (pL σ 53 0 1) v1 v2 v3 0
    else
      gd (vin v4 100) (
        f_Fe_ways_3 n (pL σ 53 v4.toNatClampNeg 0) v1 v2 v3 (v4 + 1))
theorem f_Fe_ways_3_s (n : Nat) (σ : Sg) (v1 : Int32) (v2 : Int32) (v3 : Int32) (v4 : Int32) : f_Fe_ways_3 (n + 1) σ v1 v2 v3 v4 =
    if 100 ≤ v4 then
      f_Fe_ways_34 FU (pL σ 53 0 1) v1 v2 v3 0
    else
      gd (vin v4 100) (
        f_Fe_ways_3 n (pL σ 53 v4.toNatClampNeg 0) v1 v2 v3 (v4 + 1)) := rfl
set_option maxHeartbeats 4000000 in
theorem j_Fe_ways_3 {V : Vx} {X : Xx} {r : Int64} {σ' : Sg}  : ∀ (n : Nat) (σ : Sg) (v1 : Int32) (v2 : Int32) (v3 : Int32) (v4 : Int32), f_Fe_ways_3 n σ v1 v2 v3 v4 = some (r, σ') → J V X (k2_rm 1 25) c_Fe_ways R_Fe 5 (some .long) (Qr V X (some (.long r)) σ') σ 3 [(0, rf V 49), (1, .int v1), (2, .int v2), (3, .int v3), (4, .int v4)] [] := by
  intro n
  induction n with
  | zero => intro σ v1 v2 v3 v4 hf; exact nn hf
  | succ n ih =>
    intro σ v1 v2 v3 v4 hf
    rw [f_Fe_ways_3_s] at hf
    refine J_iload (pc' := 5) d_Fe_ways_3 rfl 4 rfl ?_
    refine J_bipush (pc' := 7) (v := 100) d_Fe_ways_5 rfl bc_100 ?_
    refine J_icmp_ge (pc' := 10) (tgt := 24) d_Fe_ways_7 rfl (by decide) (fun hc1 => ?_) (fun hc1 => ?_)
    · have hf := brT hc1 hf
      refine J_aload_n (pc' := 25) d_Fe_ways_24 rfl 0 rfl ?_
      refine J_getR (pc' := 28) d_Fe_ways_25 rfl sh_49 fl_Fe_21 rfl ?_
      refine J_iconst (pc' := 29) (v := 0) d_Fe_ways_28 rfl ic_0 ?_
      refine J_lconst (pc' := 30) (v := 1) d_Fe_ways_29 rfl lc_1 ?_
      refine J_las (pc' := 31) d_Fe_ways_30 rfl sh_53 (vin_c (by decide)) ?_
      refine J_iconst (pc' := 32) (v := 0) d_Fe_ways_31 rfl ic_0 ?_
      refine J_istore (pc' := 34) (lv' := [(4, .int 0), (0, rf V 49), (1, .int v1), (2, .int v2), (3, .int v3)]) d_Fe_ways_32 rfl (by decide) rfl ?_
      refine J_pick [1, 2, 3, 4, 0] rfl ?_
      exact j_Fe_ways_34 FU _ _ _ _ _ hf
    · have hf := brF hc1 hf
      refine J_aload_n (pc' := 11) d_Fe_ways_10 rfl 0 rfl ?_
      refine J_getR (pc' := 14) d_Fe_ways_11 rfl sh_49 fl_Fe_21 rfl ?_
      refine J_iload (pc' := 16) d_Fe_ways_14 rfl 4 rfl ?_
      refine J_lconst (pc' := 17) (v := 0) d_Fe_ways_16 rfl lc_0 ?_
      obtain ⟨hg6, hf⟩ := gdE hf
      refine J_las (pc' := 18) d_Fe_ways_17 rfl sh_53 (vinP hg6) ?_
      refine J_iinc (pc' := 21) (j := 4) (v := 1) (lv' := [(4, .int (v4 + 1)), (0, rf V 49), (1, .int v1), (2, .int v2), (3, .int v3)]) d_Fe_ways_18 rfl rfl ic_1 (by decide) rfl ?_
      refine J_goto (tgt := 3) d_Fe_ways_21 (by decide) ?_
      refine J_pick [1, 2, 3, 4, 0] rfl ?_
      exact ih _ _ _ _ _ hf
def f_Fe_ways (σ : Sg) (v1 : Int32) (v2 : Int32) (v3 : Int32) : Option (Int64 × Sg) :=
  f_Fe_ways_3 FU σ v1 v2 v3 0
set_option maxHeartbeats 4000000 in
theorem j_Fe_ways {V : Vx} {X : Xx} {r : Int64} {σ' : Sg} (σ : Sg) (v1 : Int32) (v2 : Int32) (v3 : Int32) (hf : f_Fe_ways σ v1 v2 v3 = some (r, σ')) : J V X (k2_rm 1 25) c_Fe_ways R_Fe 5 (some .long) (Qr V X (some (.long r)) σ') σ 0 [(0, rf V 49), (1, .int v1), (2, .int v2), (3, .int v3)] [] := by
  unfold f_Fe_ways at hf
  refine J_iconst (pc' := 1) (v := 0) d_Fe_ways_0 rfl ic_0 ?_
  refine J_istore (pc' := 3) (lv' := [(4, .int 0), (0, rf V 49), (1, .int v1), (2, .int v2), (3, .int v3)]) d_Fe_ways_1 rfl (by decide) rfl ?_
  refine J_pick [1, 2, 3, 4, 0] rfl ?_
  exact j_Fe_ways_3 FU _ _ _ _ _ hf
theorem ct_Fe_ways (V : Vx) (l : Launch) (σ : Sg) (v1 : Int32) (v2 : Int32) (v3 : Int32) {r : Int64} {σ' : Sg} (hf : f_Fe_ways σ v1 v2 v3 = some (r, σ')) : Ct V l y_Fe_ways c_Fe_ways 5 (some .long) (k2_rm 1 25) [rf V 49, .int v1, .int v2, .int v3] σ (some (.long r)) σ' := Ct.ofJ (by decide +kernel) (Nat.le_of_ble_eq_true rfl) fun X _ => j_Fe_ways _ v1 v2 v3 hf
def f_GR_knots_30 (σ : Sg)  : Option (Int64 × Sg) :=
  some (f_GR_longRefusal (-2), σ)
set_option maxHeartbeats 4000000 in
theorem j_GR_knots_30 {V : Vx} {X : Xx} {r : Int64} {σ' : Sg}  (σ : Sg) (hf : f_GR_knots_30 σ = some (r, σ')) : J V X (k2_rm 2 49) c_GR_knots R_GR 4 (some .long) (Qr V X (some (.long r)) σ') σ 30 [] [] := by
  unfold f_GR_knots_30 at hf
  refine J_bipush (pc' := 32) (v := (-2)) d_GR_knots_30 rfl bc_m2 ?_
  refine J_S (pc' := 35) (as := [.int (-2)]) (rest := []) (st' := [.long (f_GR_longRefusal (-2))]) d_GR_knots_32 rfl ms_GR_125 (ct_GR_longRefusal V _ σ (-2)) rfl rfl ⟨Nat.le_of_ble_eq_true rfl, Nat.le_of_ble_eq_true rfl⟩ ⟨rfl, rfl⟩ (Nat.le_of_ble_eq_true rfl) rfl ?_
  obtain ⟨rfl, rfl⟩ := resE hf
  exact J_lret d_GR_knots_35
def f_GR_knots (σ : Sg) (v1 : Int32) (v2 : Int32) (v3 : Int32) : Option (Int64 × Sg) :=
  if (f_Rs_has σ v1) = 0 then
    f_GR_knots_30 σ
  else
    if v2 < 0 then
      f_GR_knots_30 σ
    else
      if 9 < v2 then
        f_GR_knots_30 σ
      else
        if (f_GR_isBelow v3 100) = 0 then
          f_GR_knots_30 σ
        else
          bd (f_Fe_ways σ (σ.1 (f_Rs_at v1) 3) v2 v3) fun r7 σ6 =>
            some (r7, σ6)
set_option maxHeartbeats 4000000 in
theorem j_GR_knots {V : Vx} {X : Xx} {r : Int64} {σ' : Sg} (σ : Sg) (v1 : Int32) (v2 : Int32) (v3 : Int32) (hf : f_GR_knots σ v1 v2 v3 = some (r, σ')) : J V X (k2_rm 2 49) c_GR_knots R_GR 4 (some .long) (Qr V X (some (.long r)) σ') σ 0 [(0, rf V 0), (1, .int v1), (2, .int v2), (3, .int v3)] [] := by
  unfold f_GR_knots at hf
  refine J_aload_n (pc' := 1) d_GR_knots_0 rfl 0 rfl ?_
  refine J_getR (pc' := 4) d_GR_knots_1 rfl sh_0 fl_GR_24 rfl ?_
  refine J_iload_n (pc' := 5) d_GR_knots_4 rfl 1 rfl ?_
  refine J_V (pc' := 8) (as := [.int v1]) (rest := []) (st' := [.int (f_Rs_has σ v1)]) d_GR_knots_5 rfl sh_5 rfl mv_GR_100 (ct_Rs_has V _ σ v1) rfl rfl ⟨Nat.le_of_ble_eq_true rfl, Nat.le_of_ble_eq_true rfl⟩ ⟨rfl, rfl⟩ (Nat.le_of_ble_eq_true rfl) rfl ?_
  refine J_if_eq (pc' := 11) (tgt := 30) d_GR_knots_8 rfl (by decide) (fun hc1 => ?_) (fun hc1 => ?_)
  · have hf := brT hc1 hf
    refine J_pick [] rfl ?_
    exact j_GR_knots_30 _ hf
  · have hf := brF hc1 hf
    refine J_iload_n (pc' := 12) d_GR_knots_11 rfl 2 rfl ?_
    refine J_if_lt (pc' := 15) (tgt := 30) d_GR_knots_12 rfl (by decide) (fun hc2 => ?_) (fun hc2 => ?_)
    · have hf := brT hc2 hf
      refine J_pick [] rfl ?_
      exact j_GR_knots_30 _ hf
    · have hf := brF hc2 hf
      refine J_iload_n (pc' := 16) d_GR_knots_15 rfl 2 rfl ?_
      refine J_bipush (pc' := 18) (v := 9) d_GR_knots_16 rfl bc_9 ?_
      refine J_icmp_gt (pc' := 21) (tgt := 30) d_GR_knots_18 rfl (by decide) (fun hc3 => ?_) (fun hc3 => ?_)
      · have hf := brT hc3 hf
        refine J_pick [] rfl ?_
        exact j_GR_knots_30 _ hf
      · have hf := brF hc3 hf
        refine J_iload_n (pc' := 22) d_GR_knots_21 rfl 3 rfl ?_
        refine J_bipush (pc' := 24) (v := 100) d_GR_knots_22 rfl bc_100 ?_
        refine J_S (pc' := 27) (as := [.int v3, .int 100]) (rest := []) (st' := [.int (f_GR_isBelow v3 100)]) d_GR_knots_24 rfl ms_GR_67 (ct_GR_isBelow V _ σ v3 100) rfl rfl ⟨Nat.le_of_ble_eq_true rfl, Nat.le_of_ble_eq_true rfl⟩ ⟨rfl, rfl⟩ (Nat.le_of_ble_eq_true rfl) rfl ?_
        refine J_if_ne (pc' := 30) (tgt := 36) d_GR_knots_27 rfl (by decide) (fun hc4 => ?_) (fun hc4 => ?_)
        · have hf := brF hc4 hf
          refine J_aload_n (pc' := 37) d_GR_knots_36 rfl 0 rfl ?_
          refine J_getR (pc' := 40) d_GR_knots_37 rfl sh_0 fl_GR_56 rfl ?_
          refine J_aload_n (pc' := 41) d_GR_knots_40 rfl 0 rfl ?_
          refine J_getR (pc' := 44) d_GR_knots_41 rfl sh_0 fl_GR_24 rfl ?_
          refine J_iload_n (pc' := 45) d_GR_knots_44 rfl 1 rfl ?_
          refine J_V (pc' := 48) (as := [.int v1]) (rest := [rf V 49]) (st' := [rf V (f_Rs_at v1), rf V 49]) d_GR_knots_45 rfl sh_5 rfl mv_GR_104 (ct_Rs_at V _ σ v1) rfl rfl ⟨Nat.le_of_ble_eq_true rfl, Nat.le_of_ble_eq_true rfl⟩ ⟨rfl, rfl⟩ (Nat.le_of_ble_eq_true rfl) rfl ?_
          refine J_getI (pc' := 51) d_GR_knots_48 rfl (sh_Ro (is_Rs_at v1)) fl_GR_220 rfl ?_
          refine J_iload_n (pc' := 52) d_GR_knots_51 rfl 2 rfl ?_
          refine J_iload_n (pc' := 53) d_GR_knots_52 rfl 3 rfl ?_
          obtain ⟨r7, σ6, hq5, hf⟩ := bdE hf
          refine J_V (pc' := 56) (as := [.int (σ.1 (f_Rs_at v1) 3), .int v2, .int v3]) (rest := []) (st' := [.long r7]) d_GR_knots_53 rfl sh_49 rfl mv_GR_260 (ct_Fe_ways V _ σ (σ.1 (f_Rs_at v1) 3) v2 v3 hq5) rfl rfl ⟨Nat.le_of_ble_eq_true rfl, Nat.le_of_ble_eq_true rfl⟩ ⟨rfl, rfl⟩ (Nat.le_of_ble_eq_true rfl) rfl ?_
          obtain ⟨rfl, rfl⟩ := resE hf
          exact J_lret d_GR_knots_56
        · have hf := brT hc4 hf
          refine J_pick [] rfl ?_
          exact j_GR_knots_30 _ hf
theorem ct_GR_knots (V : Vx) (l : Launch) (σ : Sg) (v1 : Int32) (v2 : Int32) (v3 : Int32) {r : Int64} {σ' : Sg} (hf : f_GR_knots σ v1 v2 v3 = some (r, σ')) : Ct V l y_GR_knots c_GR_knots 4 (some .long) (k2_rm 2 49) [rf V 0, .int v1, .int v2, .int v3] σ (some (.long r)) σ' := Ct.ofJ (by decide +kernel) (Nat.le_of_ble_eq_true rfl) fun X _ => j_GR_knots _ v1 v2 v3 hf
def f_Sh_renew_21 : Nat → Sg → Nat → Int32 → Option Sg
  | 0, _, _, _ => none
  | n + 1, σ, v0, v3 =>
    if 60 ≤ v3 then
      some σ
    else
      gd (vin v3 60) (
        f_Sh_renew_21 n (pI σ (v0 + 1) v3.toNatClampNeg 0) v0 (v3 + 1))
theorem f_Sh_renew_21_s (n : Nat) (σ : Sg) (v0 : Nat) (v3 : Int32) : f_Sh_renew_21 (n + 1) σ v0 v3 =
    if 60 ≤ v3 then
      some σ
    else
      gd (vin v3 60) (
        f_Sh_renew_21 n (pI σ (v0 + 1) v3.toNatClampNeg 0) v0 (v3 + 1)) := rfl
set_option maxHeartbeats 4000000 in
theorem j_Sh_renew_21 {V : Vx} {X : Xx} {σ' : Sg}  : ∀ (n : Nat) (σ : Sg) (v0 : Nat) (v3 : Int32) (iv0 : is_Sh v0), f_Sh_renew_21 n σ v0 v3 = some σ' → J V X (k2_rm 1 21) c_Sh_renew R_Sh 4 none (Qr V X none σ') σ 21 [(0, rf V v0), (3, .int v3)] [] := by
  intro n
  induction n with
  | zero => intro σ v0 v3 iv0 hf; exact nn hf
  | succ n ih =>
    intro σ v0 v3 iv0 hf
    rw [f_Sh_renew_21_s] at hf
    refine J_iload_n (pc' := 22) d_Sh_renew_21 rfl 1 rfl ?_
    refine J_bipush (pc' := 24) (v := 60) d_Sh_renew_22 rfl bc_60 ?_
    refine J_icmp_ge (pc' := 27) (tgt := 40) d_Sh_renew_24 rfl (by decide) (fun hc1 => ?_) (fun hc1 => ?_)
    · have hf := brT hc1 hf
      obtain rfl := Option.some.inj hf
      exact J_vret d_Sh_renew_40
    · have hf := brF hc1 hf
      refine J_aload_n (pc' := 28) d_Sh_renew_27 rfl 0 rfl ?_
      refine J_getR (pc' := 31) d_Sh_renew_28 rfl (sh_Sh iv0) fl_Sh_9 rfl ?_
      refine J_iload_n (pc' := 32) d_Sh_renew_31 rfl 1 rfl ?_
      refine J_iconst (pc' := 33) (v := 0) d_Sh_renew_32 rfl ic_0 ?_
      obtain ⟨hg2, hf⟩ := gdE hf
      refine J_ias (pc' := 34) d_Sh_renew_33 rfl (sh_Sh_a iv0) (vinP hg2) ?_
      refine J_iinc (pc' := 37) (j := 1) (v := 1) (lv' := [(3, .int (v3 + 1)), (0, rf V v0)]) d_Sh_renew_34 rfl rfl ic_1 (by decide) rfl ?_
      refine J_goto (tgt := 21) d_Sh_renew_37 (by decide) ?_
      refine J_pick [1, 0] rfl ?_
      exact ih _ _ _ iv0 hf
def f_Sh_renew (σ : Sg) (v0 : Nat) (v1 : Int32) (v2 : Int32) : Option Sg :=
  f_Sh_renew_21 FU (pI (pI σ v0 1 v1) v0 2 (f_JM_max 0 (f_JM_min v2 60))) v0 0
set_option maxHeartbeats 4000000 in
theorem j_Sh_renew {V : Vx} {X : Xx} {σ' : Sg} (σ : Sg) (v0 : Nat) (v1 : Int32) (v2 : Int32) (iv0 : is_Sh v0) (hf : f_Sh_renew σ v0 v1 v2 = some σ') : J V X (k2_rm 1 21) c_Sh_renew R_Sh 4 none (Qr V X none σ') σ 0 [(0, rf V v0), (1, .int v1), (2, .int v2)] [] := by
  unfold f_Sh_renew at hf
  refine J_aload_n (pc' := 1) d_Sh_renew_0 rfl 0 rfl ?_
  refine J_iload_n (pc' := 2) d_Sh_renew_1 rfl 1 rfl ?_
  refine J_putI (pc' := 5) d_Sh_renew_2 rfl (sh_Sh iv0) fp_Sh_15 rfl ?_
  refine J_aload_n (pc' := 6) d_Sh_renew_5 rfl 0 rfl ?_
  refine J_iconst (pc' := 7) (v := 0) d_Sh_renew_6 rfl ic_0 ?_
  refine J_iload_n (pc' := 8) d_Sh_renew_7 rfl 2 rfl ?_
  refine J_bipush (pc' := 10) (v := 60) d_Sh_renew_8 rfl bc_60 ?_
  refine J_S (pc' := 13) (as := [.int v2, .int 60]) (rest := [.int 0, rf V v0]) (st' := [.int (f_JM_min v2 60), .int 0, rf V v0]) d_Sh_renew_10 rfl ms_Sh_19 (ct_JM_min V _ (pI σ v0 1 v1) v2 60) rfl rfl ⟨Nat.le_of_ble_eq_true rfl, Nat.le_of_ble_eq_true rfl⟩ ⟨rfl, rfl⟩ (Nat.le_of_ble_eq_true rfl) rfl ?_
  refine J_S (pc' := 16) (as := [.int 0, .int (f_JM_min v2 60)]) (rest := [rf V v0]) (st' := [.int (f_JM_max 0 (f_JM_min v2 60)), rf V v0]) d_Sh_renew_13 rfl ms_Sh_25 (ct_JM_max V _ (pI σ v0 1 v1) 0 (f_JM_min v2 60)) rfl rfl ⟨Nat.le_of_ble_eq_true rfl, Nat.le_of_ble_eq_true rfl⟩ ⟨rfl, rfl⟩ (Nat.le_of_ble_eq_true rfl) rfl ?_
  refine J_putI (pc' := 19) d_Sh_renew_16 rfl (sh_Sh iv0) fp_Sh_28 rfl ?_
  refine J_iconst (pc' := 20) (v := 0) d_Sh_renew_19 rfl ic_0 ?_
  refine J_istore_n (pc' := 21) (lv' := [(3, .int 0), (0, rf V v0), (1, .int v1), (2, .int v2)]) d_Sh_renew_20 rfl rfl (by decide) rfl ?_
  refine J_pick [1, 0] rfl ?_
  exact j_Sh_renew_21 FU _ _ _ iv0 hf
theorem ct_Sh_renew (V : Vx) (l : Launch) (σ : Sg) (v0 : Nat) (v1 : Int32) (v2 : Int32) (iv0 : is_Sh v0) {σ' : Sg} (hf : f_Sh_renew σ v0 v1 v2 = some σ') : Ct V l y_Sh_renew c_Sh_renew 4 none (k2_rm 1 21) [rf V v0, .int v1, .int v2] σ none σ' := Ct.ofJ (by decide +kernel) (Nat.le_of_ble_eq_true rfl) fun X _ => j_Sh_renew _ v0 v1 v2 iv0 hf
def f_GR_sheet (σ : Sg) (v1 : Int32) (v2 : Int32) (v3 : Int32) : Option (Int32 × Sg) :=
  if (f_GR_isBelow v1 4) = 0 then
    some ((-2), σ)
  else
    if (f_GR_isBelow v2 3) = 0 then
      some ((-2), σ)
    else
      if v3 ≤ 60 then
        if 0 ≤ v3 then
          (f_Sh_renew σ (f_Ss_at v1) v2 v3).bind fun σ6 =>
            some (v3, σ6)
        else
          bd (f_Ss_find σ 5) fun r9 σ8 =>
            some (r9, σ8)
      else
        some ((-2), σ)
set_option maxHeartbeats 4000000 in
theorem j_GR_sheet {V : Vx} {X : Xx} {r : Int32} {σ' : Sg} (σ : Sg) (v1 : Int32) (v2 : Int32) (v3 : Int32) (hf : f_GR_sheet σ v1 v2 v3 = some (r, σ')) : J V X (k2_rm 2 44) c_GR_sheet R_GR 4 (some .int) (Qr V X (some (.int r)) σ') σ 0 [(0, rf V 0), (1, .int v1), (2, .int v2), (3, .int v3)] [] := by
  unfold f_GR_sheet at hf
  refine J_iload_n (pc' := 1) d_GR_sheet_0 rfl 1 rfl ?_
  refine J_iconst (pc' := 2) (v := 4) d_GR_sheet_1 rfl ic_4 ?_
  refine J_S (pc' := 5) (as := [.int v1, .int 4]) (rest := []) (st' := [.int (f_GR_isBelow v1 4)]) d_GR_sheet_2 rfl ms_GR_67 (ct_GR_isBelow V _ σ v1 4) rfl rfl ⟨Nat.le_of_ble_eq_true rfl, Nat.le_of_ble_eq_true rfl⟩ ⟨rfl, rfl⟩ (Nat.le_of_ble_eq_true rfl) rfl ?_
  refine J_if_eq (pc' := 8) (tgt := 22) d_GR_sheet_5 rfl (by decide) (fun hc1 => ?_) (fun hc1 => ?_)
  · have hf := brT hc1 hf
    refine J_bipush (pc' := 24) (v := (-2)) d_GR_sheet_22 rfl bc_m2 ?_
    obtain ⟨rfl, rfl⟩ := resE hf
    exact J_iret d_GR_sheet_24
  · have hf := brF hc1 hf
    refine J_iload_n (pc' := 9) d_GR_sheet_8 rfl 2 rfl ?_
    refine J_iconst (pc' := 10) (v := 3) d_GR_sheet_9 rfl ic_3 ?_
    refine J_S (pc' := 13) (as := [.int v2, .int 3]) (rest := []) (st' := [.int (f_GR_isBelow v2 3)]) d_GR_sheet_10 rfl ms_GR_67 (ct_GR_isBelow V _ σ v2 3) rfl rfl ⟨Nat.le_of_ble_eq_true rfl, Nat.le_of_ble_eq_true rfl⟩ ⟨rfl, rfl⟩ (Nat.le_of_ble_eq_true rfl) rfl ?_
    refine J_if_eq (pc' := 16) (tgt := 22) d_GR_sheet_13 rfl (by decide) (fun hc2 => ?_) (fun hc2 => ?_)
    · have hf := brT hc2 hf
      refine J_bipush (pc' := 24) (v := (-2)) d_GR_sheet_22 rfl bc_m2 ?_
      obtain ⟨rfl, rfl⟩ := resE hf
      exact J_iret d_GR_sheet_24
    · have hf := brF hc2 hf
      refine J_iload_n (pc' := 17) d_GR_sheet_16 rfl 3 rfl ?_
      refine J_bipush (pc' := 19) (v := 60) d_GR_sheet_17 rfl bc_60 ?_
      refine J_icmp_le (pc' := 22) (tgt := 25) d_GR_sheet_19 rfl (by decide) (fun hc3 => ?_) (fun hc3 => ?_)
      · have hf := brT hc3 hf
        refine J_iload_n (pc' := 26) d_GR_sheet_25 rfl 3 rfl ?_
        refine J_if_ge (pc' := 29) (tgt := 38) d_GR_sheet_26 rfl (by decide) (fun hc4 => ?_) (fun hc4 => ?_)
        · have hf := brT hc4 hf
          refine J_aload_n (pc' := 39) d_GR_sheet_38 rfl 0 rfl ?_
          refine J_getR (pc' := 42) d_GR_sheet_39 rfl sh_0 fl_GR_63 rfl ?_
          refine J_iload_n (pc' := 43) d_GR_sheet_42 rfl 1 rfl ?_
          refine J_V (pc' := 46) (as := [.int v1]) (rest := []) (st' := [rf V (f_Ss_at v1)]) d_GR_sheet_43 rfl sh_54 rfl mv_GR_157 (ct_Ss_at V _ σ v1) rfl rfl ⟨Nat.le_of_ble_eq_true rfl, Nat.le_of_ble_eq_true rfl⟩ ⟨rfl, rfl⟩ (Nat.le_of_ble_eq_true rfl) rfl ?_
          refine J_iload_n (pc' := 47) d_GR_sheet_46 rfl 2 rfl ?_
          refine J_iload_n (pc' := 48) d_GR_sheet_47 rfl 3 rfl ?_
          obtain ⟨σ6, hq5, hf⟩ := bpE hf
          refine J_V (pc' := 51) (as := [.int v2, .int v3]) (rest := []) (st' := []) d_GR_sheet_48 rfl (sh_Sh (is_Ss_at v1)) rfl mv_GR_264 (ct_Sh_renew V _ σ (f_Ss_at v1) v2 v3 (is_Ss_at v1) hq5) rfl rfl ⟨Nat.le_of_ble_eq_true rfl, Nat.le_of_ble_eq_true rfl⟩ ⟨rfl, rfl⟩ (Nat.le_of_ble_eq_true rfl) rfl ?_
          refine J_iload_n (pc' := 52) d_GR_sheet_51 rfl 3 rfl ?_
          obtain ⟨rfl, rfl⟩ := resE hf
          exact J_iret d_GR_sheet_52
        · have hf := brF hc4 hf
          refine J_aload_n (pc' := 30) d_GR_sheet_29 rfl 0 rfl ?_
          refine J_getR (pc' := 33) d_GR_sheet_30 rfl sh_0 fl_GR_63 rfl ?_
          refine J_iconst (pc' := 34) (v := 5) d_GR_sheet_33 rfl ic_5 ?_
          obtain ⟨r9, σ8, hq7, hf⟩ := bdE hf
          refine J_V (pc' := 37) (as := [.int 5]) (rest := []) (st' := [.int r9]) d_GR_sheet_34 rfl sh_54 rfl mv_GR_165 (ct_Ss_find V _ σ 5 hq7) rfl rfl ⟨Nat.le_of_ble_eq_true rfl, Nat.le_of_ble_eq_true rfl⟩ ⟨rfl, rfl⟩ (Nat.le_of_ble_eq_true rfl) rfl ?_
          obtain ⟨rfl, rfl⟩ := resE hf
          exact J_iret d_GR_sheet_37
      · have hf := brF hc3 hf
        refine J_bipush (pc' := 24) (v := (-2)) d_GR_sheet_22 rfl bc_m2 ?_
        obtain ⟨rfl, rfl⟩ := resE hf
        exact J_iret d_GR_sheet_24
theorem ct_GR_sheet (V : Vx) (l : Launch) (σ : Sg) (v1 : Int32) (v2 : Int32) (v3 : Int32) {r : Int32} {σ' : Sg} (hf : f_GR_sheet σ v1 v2 v3 = some (r, σ')) : Ct V l y_GR_sheet c_GR_sheet 4 (some .int) (k2_rm 2 44) [rf V 0, .int v1, .int v2, .int v3] σ (some (.int r)) σ' := Ct.ofJ (by decide +kernel) (Nat.le_of_ble_eq_true rfl) fun X _ => j_GR_sheet _ v1 v2 v3 hf
