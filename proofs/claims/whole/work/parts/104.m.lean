theorem d_GR_clash_0 : decode c_GR_clash 0 = .ok (.aload_n 0, 1) := by decide +kernel
theorem d_GR_clash_1 : decode c_GR_clash 1 = .ok (.getfield 35, 3) := by decide +kernel
theorem d_GR_clash_4 : decode c_GR_clash 4 = .ok (.iload_n 1, 1) := by decide +kernel
theorem d_GR_clash_5 : decode c_GR_clash 5 = .ok (.invokevirtual 175, 3) := by decide +kernel
theorem d_GR_clash_8 : decode c_GR_clash 8 = .ok (.ifCond .eq 27, 3) := by decide +kernel
theorem d_GR_clash_11 : decode c_GR_clash 11 = .ok (.aload_n 0, 1) := by decide +kernel
theorem d_GR_clash_12 : decode c_GR_clash 12 = .ok (.getfield 35, 3) := by decide +kernel
theorem d_GR_clash_15 : decode c_GR_clash 15 = .ok (.iload_n 2, 1) := by decide +kernel
theorem d_GR_clash_16 : decode c_GR_clash 16 = .ok (.invokevirtual 175, 3) := by decide +kernel
theorem d_GR_clash_19 : decode c_GR_clash 19 = .ok (.ifCond .eq 16, 3) := by decide +kernel
theorem d_GR_clash_22 : decode c_GR_clash 22 = .ok (.iload_n 1, 1) := by decide +kernel
theorem d_GR_clash_23 : decode c_GR_clash 23 = .ok (.iload_n 2, 1) := by decide +kernel
theorem d_GR_clash_24 : decode c_GR_clash 24 = .ok (.if_icmp .eq 11, 3) := by decide +kernel
theorem d_GR_clash_27 : decode c_GR_clash 27 = .ok (.iload_n 3, 1) := by decide +kernel
theorem d_GR_clash_28 : decode c_GR_clash 28 = .ok (.iconst 2, 1) := by decide +kernel
theorem d_GR_clash_29 : decode c_GR_clash 29 = .ok (.invokestatic 67, 3) := by decide +kernel
theorem d_GR_clash_32 : decode c_GR_clash 32 = .ok (.ifCond .ne 6, 3) := by decide +kernel
theorem d_GR_clash_35 : decode c_GR_clash 35 = .ok (.bipush (-2), 2) := by decide +kernel
theorem d_GR_clash_37 : decode c_GR_clash 37 = .ok (.ireturn, 1) := by decide +kernel
theorem d_GR_clash_38 : decode c_GR_clash 38 = .ok (.aload_n 0, 1) := by decide +kernel
theorem d_GR_clash_39 : decode c_GR_clash 39 = .ok (.getfield 42, 3) := by decide +kernel
theorem d_GR_clash_42 : decode c_GR_clash 42 = .ok (.aload_n 0, 1) := by decide +kernel
theorem d_GR_clash_43 : decode c_GR_clash 43 = .ok (.getfield 24, 3) := by decide +kernel
theorem d_GR_clash_46 : decode c_GR_clash 46 = .ok (.aload_n 0, 1) := by decide +kernel
theorem d_GR_clash_47 : decode c_GR_clash 47 = .ok (.getfield 35, 3) := by decide +kernel
theorem d_GR_clash_50 : decode c_GR_clash 50 = .ok (.invokevirtual 176, 3) := by decide +kernel
theorem d_GR_clash_53 : decode c_GR_clash 53 = .ok (.aload_n 0, 1) := by decide +kernel
theorem d_GR_clash_54 : decode c_GR_clash 54 = .ok (.getfield 42, 3) := by decide +kernel
theorem d_GR_clash_57 : decode c_GR_clash 57 = .ok (.aload_n 0, 1) := by decide +kernel
theorem d_GR_clash_58 : decode c_GR_clash 58 = .ok (.getfield 24, 3) := by decide +kernel
theorem d_GR_clash_61 : decode c_GR_clash 61 = .ok (.aload_n 0, 1) := by decide +kernel
theorem d_GR_clash_62 : decode c_GR_clash 62 = .ok (.getfield 35, 3) := by decide +kernel
theorem d_GR_clash_65 : decode c_GR_clash 65 = .ok (.iload_n 1, 1) := by decide +kernel
theorem d_GR_clash_66 : decode c_GR_clash 66 = .ok (.iload_n 2, 1) := by decide +kernel
theorem d_GR_clash_67 : decode c_GR_clash 67 = .ok (.aload_n 0, 1) := by decide +kernel
theorem d_GR_clash_68 : decode c_GR_clash 68 = .ok (.getfield 28, 3) := by decide +kernel
theorem d_GR_clash_71 : decode c_GR_clash 71 = .ok (.iconst 0, 1) := by decide +kernel
theorem d_GR_clash_72 : decode c_GR_clash 72 = .ok (.iaload, 1) := by decide +kernel
theorem d_GR_clash_73 : decode c_GR_clash 73 = .ok (.invokevirtual 180, 3) := by decide +kernel
theorem d_GR_clash_76 : decode c_GR_clash 76 = .ok (.istore 4, 2) := by decide +kernel
theorem d_GR_clash_78 : decode c_GR_clash 78 = .ok (.iload_n 3, 1) := by decide +kernel
theorem d_GR_clash_79 : decode c_GR_clash 79 = .ok (.ifCond .ne 14, 3) := by decide +kernel
theorem d_GR_clash_82 : decode c_GR_clash 82 = .ok (.iload 4, 2) := by decide +kernel
theorem d_GR_clash_84 : decode c_GR_clash 84 = .ok (.ifCond .eq 7, 3) := by decide +kernel
theorem d_GR_clash_87 : decode c_GR_clash 87 = .ok (.iconst 1, 1) := by decide +kernel
theorem d_GR_clash_88 : decode c_GR_clash 88 = .ok (.goto 4, 3) := by decide +kernel
theorem d_GR_clash_91 : decode c_GR_clash 91 = .ok (.iconst 0, 1) := by decide +kernel
theorem d_GR_clash_92 : decode c_GR_clash 92 = .ok (.ireturn, 1) := by decide +kernel
theorem d_GR_clash_93 : decode c_GR_clash 93 = .ok (.iload 4, 2) := by decide +kernel
theorem d_GR_clash_95 : decode c_GR_clash 95 = .ok (.ifCond .eq 12, 3) := by decide +kernel
theorem d_GR_clash_98 : decode c_GR_clash 98 = .ok (.aload_n 0, 1) := by decide +kernel
theorem d_GR_clash_99 : decode c_GR_clash 99 = .ok (.iload_n 1, 1) := by decide +kernel
theorem d_GR_clash_100 : decode c_GR_clash 100 = .ok (.iload_n 2, 1) := by decide +kernel
theorem d_GR_clash_101 : decode c_GR_clash 101 = .ok (.invokevirtual 184, 3) := by decide +kernel
theorem d_GR_clash_104 : decode c_GR_clash 104 = .ok (.goto 4, 3) := by decide +kernel
theorem d_GR_clash_107 : decode c_GR_clash 107 = .ok (.iconst (-1), 1) := by decide +kernel
theorem d_GR_clash_108 : decode c_GR_clash 108 = .ok (.ireturn, 1) := by decide +kernel
theorem d_Tt_pairs_0 : decode c_Tt_pairs 0 = .ok (.iconst 0, 1) := by decide +kernel
theorem d_Tt_pairs_1 : decode c_Tt_pairs 1 = .ok (.istore 4, 2) := by decide +kernel
theorem d_Tt_pairs_3 : decode c_Tt_pairs 3 = .ok (.iconst 0, 1) := by decide +kernel
theorem d_Tt_pairs_4 : decode c_Tt_pairs 4 = .ok (.istore 5, 2) := by decide +kernel
theorem d_Tt_pairs_6 : decode c_Tt_pairs 6 = .ok (.iload 5, 2) := by decide +kernel
theorem d_Tt_pairs_8 : decode c_Tt_pairs 8 = .ok (.aload_n 2, 1) := by decide +kernel
theorem d_Tt_pairs_9 : decode c_Tt_pairs 9 = .ok (.getfield 19, 3) := by decide +kernel
theorem d_Tt_pairs_12 : decode c_Tt_pairs 12 = .ok (.if_icmp .ge 47, 3) := by decide +kernel
theorem d_Tt_pairs_15 : decode c_Tt_pairs 15 = .ok (.iload 5, 2) := by decide +kernel
theorem d_Tt_pairs_17 : decode c_Tt_pairs 17 = .ok (.iconst 1, 1) := by decide +kernel
theorem d_Tt_pairs_18 : decode c_Tt_pairs 18 = .ok (.iadd, 1) := by decide +kernel
theorem d_Tt_pairs_19 : decode c_Tt_pairs 19 = .ok (.istore 6, 2) := by decide +kernel
theorem d_Tt_pairs_21 : decode c_Tt_pairs 21 = .ok (.iload 6, 2) := by decide +kernel
theorem d_Tt_pairs_23 : decode c_Tt_pairs 23 = .ok (.aload_n 2, 1) := by decide +kernel
theorem d_Tt_pairs_24 : decode c_Tt_pairs 24 = .ok (.getfield 19, 3) := by decide +kernel
theorem d_Tt_pairs_27 : decode c_Tt_pairs 27 = .ok (.if_icmp .ge 26, 3) := by decide +kernel
theorem d_Tt_pairs_30 : decode c_Tt_pairs 30 = .ok (.aload_n 0, 1) := by decide +kernel
theorem d_Tt_pairs_31 : decode c_Tt_pairs 31 = .ok (.aload_n 1, 1) := by decide +kernel
theorem d_Tt_pairs_32 : decode c_Tt_pairs 32 = .ok (.aload_n 2, 1) := by decide +kernel
theorem d_Tt_pairs_33 : decode c_Tt_pairs 33 = .ok (.iload 5, 2) := by decide +kernel
theorem d_Tt_pairs_35 : decode c_Tt_pairs 35 = .ok (.iload 6, 2) := by decide +kernel
theorem d_Tt_pairs_37 : decode c_Tt_pairs 37 = .ok (.iload_n 3, 1) := by decide +kernel
theorem d_Tt_pairs_38 : decode c_Tt_pairs 38 = .ok (.invokevirtual 71, 3) := by decide +kernel
theorem d_Tt_pairs_41 : decode c_Tt_pairs 41 = .ok (.ifCond .eq 6, 3) := by decide +kernel
theorem d_Tt_pairs_44 : decode c_Tt_pairs 44 = .ok (.iinc 4 1, 3) := by decide +kernel
theorem d_Tt_pairs_47 : decode c_Tt_pairs 47 = .ok (.iinc 6 1, 3) := by decide +kernel
theorem d_Tt_pairs_50 : decode c_Tt_pairs 50 = .ok (.goto (-29), 3) := by decide +kernel
theorem d_Tt_pairs_53 : decode c_Tt_pairs 53 = .ok (.iinc 5 1, 3) := by decide +kernel
theorem d_Tt_pairs_56 : decode c_Tt_pairs 56 = .ok (.goto (-50), 3) := by decide +kernel
theorem d_Tt_pairs_59 : decode c_Tt_pairs 59 = .ok (.iload 4, 2) := by decide +kernel
theorem d_Tt_pairs_61 : decode c_Tt_pairs 61 = .ok (.ireturn, 1) := by decide +kernel
theorem d_GR_clashes_0 : decode c_GR_clashes 0 = .ok (.aload_n 0, 1) := by decide +kernel
theorem d_GR_clashes_1 : decode c_GR_clashes 1 = .ok (.getfield 42, 3) := by decide +kernel
theorem d_GR_clashes_4 : decode c_GR_clashes 4 = .ok (.aload_n 0, 1) := by decide +kernel
theorem d_GR_clashes_5 : decode c_GR_clashes 5 = .ok (.getfield 24, 3) := by decide +kernel
theorem d_GR_clashes_8 : decode c_GR_clashes 8 = .ok (.aload_n 0, 1) := by decide +kernel
theorem d_GR_clashes_9 : decode c_GR_clashes 9 = .ok (.getfield 35, 3) := by decide +kernel
theorem d_GR_clashes_12 : decode c_GR_clashes 12 = .ok (.invokevirtual 176, 3) := by decide +kernel
theorem d_GR_clashes_15 : decode c_GR_clashes 15 = .ok (.aload_n 0, 1) := by decide +kernel
theorem d_GR_clashes_16 : decode c_GR_clashes 16 = .ok (.getfield 42, 3) := by decide +kernel
theorem d_GR_clashes_19 : decode c_GR_clashes 19 = .ok (.aload_n 0, 1) := by decide +kernel
theorem d_GR_clashes_20 : decode c_GR_clashes 20 = .ok (.getfield 24, 3) := by decide +kernel
theorem d_GR_clashes_23 : decode c_GR_clashes 23 = .ok (.aload_n 0, 1) := by decide +kernel
theorem d_GR_clashes_24 : decode c_GR_clashes 24 = .ok (.getfield 35, 3) := by decide +kernel
theorem d_GR_clashes_27 : decode c_GR_clashes 27 = .ok (.aload_n 0, 1) := by decide +kernel
theorem d_GR_clashes_28 : decode c_GR_clashes 28 = .ok (.getfield 28, 3) := by decide +kernel
theorem d_GR_clashes_31 : decode c_GR_clashes 31 = .ok (.iconst 0, 1) := by decide +kernel
theorem d_GR_clashes_32 : decode c_GR_clashes 32 = .ok (.iaload, 1) := by decide +kernel
theorem d_GR_clashes_33 : decode c_GR_clashes 33 = .ok (.invokevirtual 187, 3) := by decide +kernel
theorem d_GR_clashes_36 : decode c_GR_clashes 36 = .ok (.ireturn, 1) := by decide +kernel
theorem d_Rs_ranked_0 : decode c_Rs_ranked 0 = .ok (.iload_n 1, 1) := by decide +kernel
theorem d_Rs_ranked_1 : decode c_Rs_ranked 1 = .ok (.bipush 8, 2) := by decide +kernel
theorem d_Rs_ranked_3 : decode c_Rs_ranked 3 = .ok (.invokestatic 36, 3) := by decide +kernel
theorem d_Rs_ranked_6 : decode c_Rs_ranked 6 = .ok (.ifCond .eq 12, 3) := by decide +kernel
theorem d_Rs_ranked_9 : decode c_Rs_ranked 9 = .ok (.aload_n 0, 1) := by decide +kernel
theorem d_Rs_ranked_10 : decode c_Rs_ranked 10 = .ok (.getfield 22, 3) := by decide +kernel
theorem d_Rs_ranked_13 : decode c_Rs_ranked 13 = .ok (.iload_n 1, 1) := by decide +kernel
theorem d_Rs_ranked_14 : decode c_Rs_ranked 14 = .ok (.iaload, 1) := by decide +kernel
theorem d_Rs_ranked_15 : decode c_Rs_ranked 15 = .ok (.goto 4, 3) := by decide +kernel
theorem d_Rs_ranked_18 : decode c_Rs_ranked 18 = .ok (.iconst (-1), 1) := by decide +kernel
theorem d_Rs_ranked_19 : decode c_Rs_ranked 19 = .ok (.ireturn, 1) := by decide +kernel
theorem d_Tt_firstInWay_0 : decode c_Tt_firstInWay 0 = .ok (.iconst 0, 1) := by decide +kernel
theorem d_Tt_firstInWay_1 : decode c_Tt_firstInWay 1 = .ok (.istore 5, 2) := by decide +kernel
theorem d_Tt_firstInWay_3 : decode c_Tt_firstInWay 3 = .ok (.iload 5, 2) := by decide +kernel
theorem d_Tt_firstInWay_5 : decode c_Tt_firstInWay 5 = .ok (.aload_n 2, 1) := by decide +kernel
theorem d_Tt_firstInWay_6 : decode c_Tt_firstInWay 6 = .ok (.getfield 19, 3) := by decide +kernel
theorem d_Tt_firstInWay_9 : decode c_Tt_firstInWay 9 = .ok (.if_icmp .ge 32, 3) := by decide +kernel
theorem d_Tt_firstInWay_12 : decode c_Tt_firstInWay 12 = .ok (.iload 5, 2) := by decide +kernel
theorem d_Tt_firstInWay_14 : decode c_Tt_firstInWay 14 = .ok (.iload_n 3, 1) := by decide +kernel
theorem d_Tt_firstInWay_15 : decode c_Tt_firstInWay 15 = .ok (.if_icmp .eq 20, 3) := by decide +kernel
theorem d_Tt_firstInWay_18 : decode c_Tt_firstInWay 18 = .ok (.aload_n 0, 1) := by decide +kernel
theorem d_Tt_firstInWay_19 : decode c_Tt_firstInWay 19 = .ok (.aload_n 1, 1) := by decide +kernel
theorem d_Tt_firstInWay_20 : decode c_Tt_firstInWay 20 = .ok (.aload_n 2, 1) := by decide +kernel
theorem d_Tt_firstInWay_21 : decode c_Tt_firstInWay 21 = .ok (.iload_n 3, 1) := by decide +kernel
theorem d_Tt_firstInWay_22 : decode c_Tt_firstInWay 22 = .ok (.iload 5, 2) := by decide +kernel
theorem d_Tt_firstInWay_24 : decode c_Tt_firstInWay 24 = .ok (.iload 4, 2) := by decide +kernel
theorem d_Tt_firstInWay_26 : decode c_Tt_firstInWay 26 = .ok (.invokevirtual 71, 3) := by decide +kernel
theorem d_Tt_firstInWay_29 : decode c_Tt_firstInWay 29 = .ok (.ifCond .eq 6, 3) := by decide +kernel
theorem d_Tt_firstInWay_32 : decode c_Tt_firstInWay 32 = .ok (.iload 5, 2) := by decide +kernel
theorem d_Tt_firstInWay_34 : decode c_Tt_firstInWay 34 = .ok (.ireturn, 1) := by decide +kernel
theorem d_Tt_firstInWay_35 : decode c_Tt_firstInWay 35 = .ok (.iinc 5 1, 3) := by decide +kernel
theorem d_Tt_firstInWay_38 : decode c_Tt_firstInWay 38 = .ok (.goto (-35), 3) := by decide +kernel
theorem d_Tt_firstInWay_41 : decode c_Tt_firstInWay 41 = .ok (.iconst (-1), 1) := by decide +kernel
theorem d_Tt_firstInWay_42 : decode c_Tt_firstInWay 42 = .ok (.ireturn, 1) := by decide +kernel
theorem d_Tt_nextMinute_0 : decode c_Tt_nextMinute 0 = .ok (.aload_n 2, 1) := by decide +kernel
theorem d_Tt_nextMinute_1 : decode c_Tt_nextMinute 1 = .ok (.iload 4, 2) := by decide +kernel
theorem d_Tt_nextMinute_3 : decode c_Tt_nextMinute 3 = .ok (.invokevirtual 25, 3) := by decide +kernel
theorem d_Tt_nextMinute_6 : decode c_Tt_nextMinute 6 = .ok (.astore 5, 2) := by decide +kernel
theorem d_Tt_nextMinute_8 : decode c_Tt_nextMinute 8 = .ok (.aload_n 2, 1) := by decide +kernel
theorem d_Tt_nextMinute_9 : decode c_Tt_nextMinute 9 = .ok (.iload_n 3, 1) := by decide +kernel
theorem d_Tt_nextMinute_10 : decode c_Tt_nextMinute 10 = .ok (.invokevirtual 25, 3) := by decide +kernel
theorem d_Tt_nextMinute_13 : decode c_Tt_nextMinute 13 = .ok (.getfield 29, 3) := by decide +kernel
theorem d_Tt_nextMinute_16 : decode c_Tt_nextMinute 16 = .ok (.aload 5, 2) := by decide +kernel
theorem d_Tt_nextMinute_18 : decode c_Tt_nextMinute 18 = .ok (.getfield 29, 3) := by decide +kernel
theorem d_Tt_nextMinute_21 : decode c_Tt_nextMinute 21 = .ok (.if_icmp .ne 28, 3) := by decide +kernel
theorem d_Tt_nextMinute_24 : decode c_Tt_nextMinute 24 = .ok (.aload_n 0, 1) := by decide +kernel
theorem d_Tt_nextMinute_25 : decode c_Tt_nextMinute 25 = .ok (.iload 4, 2) := by decide +kernel
theorem d_Tt_nextMinute_27 : decode c_Tt_nextMinute 27 = .ok (.invokevirtual 75, 3) := by decide +kernel
theorem d_Tt_nextMinute_30 : decode c_Tt_nextMinute 30 = .ok (.aload_n 1, 1) := by decide +kernel
theorem d_Tt_nextMinute_31 : decode c_Tt_nextMinute 31 = .ok (.aload 5, 2) := by decide +kernel
theorem d_Tt_nextMinute_33 : decode c_Tt_nextMinute 33 = .ok (.getfield 29, 3) := by decide +kernel
theorem d_Tt_nextMinute_36 : decode c_Tt_nextMinute 36 = .ok (.invokevirtual 78, 3) := by decide +kernel
theorem d_Tt_nextMinute_39 : decode c_Tt_nextMinute 39 = .ok (.aload 5, 2) := by decide +kernel
theorem d_Tt_nextMinute_41 : decode c_Tt_nextMinute 41 = .ok (.getfield 81, 3) := by decide +kernel
theorem d_Tt_nextMinute_44 : decode c_Tt_nextMinute 44 = .ok (.invokevirtual 84, 3) := by decide +kernel
theorem d_Tt_nextMinute_47 : decode c_Tt_nextMinute 47 = .ok (.iadd, 1) := by decide +kernel
theorem d_Tt_nextMinute_48 : decode c_Tt_nextMinute 48 = .ok (.ireturn, 1) := by decide +kernel
theorem d_Tt_nextMinute_49 : decode c_Tt_nextMinute 49 = .ok (.aload_n 0, 1) := by decide +kernel
theorem d_Tt_nextMinute_50 : decode c_Tt_nextMinute 50 = .ok (.iload_n 3, 1) := by decide +kernel
theorem d_Tt_nextMinute_51 : decode c_Tt_nextMinute 51 = .ok (.invokevirtual 75, 3) := by decide +kernel
theorem d_Tt_nextMinute_54 : decode c_Tt_nextMinute 54 = .ok (.iconst 1, 1) := by decide +kernel
theorem d_Tt_nextMinute_55 : decode c_Tt_nextMinute 55 = .ok (.iadd, 1) := by decide +kernel
theorem d_Tt_nextMinute_56 : decode c_Tt_nextMinute 56 = .ok (.ireturn, 1) := by decide +kernel
theorem d_Tt_delay_0 : decode c_Tt_delay 0 = .ok (.aload_n 0, 1) := by decide +kernel
theorem d_Tt_delay_1 : decode c_Tt_delay 1 = .ok (.iload_n 3, 1) := by decide +kernel
theorem d_Tt_delay_2 : decode c_Tt_delay 2 = .ok (.aload_n 2, 1) := by decide +kernel
theorem d_Tt_delay_3 : decode c_Tt_delay 3 = .ok (.iload_n 3, 1) := by decide +kernel
theorem d_Tt_delay_4 : decode c_Tt_delay 4 = .ok (.invokevirtual 25, 3) := by decide +kernel
theorem d_Tt_delay_7 : decode c_Tt_delay 7 = .ok (.getfield 40, 3) := by decide +kernel
theorem d_Tt_delay_10 : decode c_Tt_delay 10 = .ok (.invokevirtual 43, 3) := by decide +kernel
theorem d_Tt_delay_13 : decode c_Tt_delay 13 = .ok (.iconst 0, 1) := by decide +kernel
theorem d_Tt_delay_14 : decode c_Tt_delay 14 = .ok (.istore 5, 2) := by decide +kernel
theorem d_Tt_delay_16 : decode c_Tt_delay 16 = .ok (.iload 5, 2) := by decide +kernel
theorem d_Tt_delay_18 : decode c_Tt_delay 18 = .ok (.ldc 63, 2) := by decide +kernel
theorem d_Tt_delay_20 : decode c_Tt_delay 20 = .ok (.if_icmp .ge 41, 3) := by decide +kernel
theorem d_Tt_delay_23 : decode c_Tt_delay 23 = .ok (.aload_n 0, 1) := by decide +kernel
theorem d_Tt_delay_24 : decode c_Tt_delay 24 = .ok (.aload_n 1, 1) := by decide +kernel
theorem d_Tt_delay_25 : decode c_Tt_delay 25 = .ok (.aload_n 2, 1) := by decide +kernel
theorem d_Tt_delay_26 : decode c_Tt_delay 26 = .ok (.iload_n 3, 1) := by decide +kernel
theorem d_Tt_delay_27 : decode c_Tt_delay 27 = .ok (.iload 4, 2) := by decide +kernel
theorem d_Tt_delay_29 : decode c_Tt_delay 29 = .ok (.invokevirtual 64, 3) := by decide +kernel
theorem d_Tt_delay_32 : decode c_Tt_delay 32 = .ok (.istore 6, 2) := by decide +kernel
theorem d_Tt_delay_34 : decode c_Tt_delay 34 = .ok (.iload 6, 2) := by decide +kernel
theorem d_Tt_delay_36 : decode c_Tt_delay 36 = .ok (.iconst (-1), 1) := by decide +kernel
theorem d_Tt_delay_37 : decode c_Tt_delay 37 = .ok (.if_icmp .ne 4, 3) := by decide +kernel
theorem d_Tt_delay_40 : decode c_Tt_delay 40 = .ok (.return_, 1) := by decide +kernel
theorem d_Tt_delay_41 : decode c_Tt_delay 41 = .ok (.aload_n 0, 1) := by decide +kernel
theorem d_Tt_delay_42 : decode c_Tt_delay 42 = .ok (.iload_n 3, 1) := by decide +kernel
theorem d_Tt_delay_43 : decode c_Tt_delay 43 = .ok (.aload_n 0, 1) := by decide +kernel
theorem d_Tt_delay_44 : decode c_Tt_delay 44 = .ok (.aload_n 1, 1) := by decide +kernel
theorem d_Tt_delay_45 : decode c_Tt_delay 45 = .ok (.aload_n 2, 1) := by decide +kernel
theorem d_Tt_delay_46 : decode c_Tt_delay 46 = .ok (.iload_n 3, 1) := by decide +kernel
theorem d_Tt_delay_47 : decode c_Tt_delay 47 = .ok (.iload 6, 2) := by decide +kernel
theorem d_Tt_delay_49 : decode c_Tt_delay 49 = .ok (.invokevirtual 68, 3) := by decide +kernel
theorem d_Tt_delay_52 : decode c_Tt_delay 52 = .ok (.invokevirtual 43, 3) := by decide +kernel
theorem d_Tt_delay_55 : decode c_Tt_delay 55 = .ok (.iinc 5 1, 3) := by decide +kernel
theorem d_Tt_delay_58 : decode c_Tt_delay 58 = .ok (.goto (-42), 3) := by decide +kernel
theorem d_Tt_delay_61 : decode c_Tt_delay 61 = .ok (.return_, 1) := by decide +kernel
theorem d_Tt_beginWithoutClash_0 : decode c_Tt_beginWithoutClash 0 = .ok (.iconst 0, 1) := by decide +kernel
theorem d_Tt_beginWithoutClash_1 : decode c_Tt_beginWithoutClash 1 = .ok (.istore 4, 2) := by decide +kernel
theorem d_Tt_beginWithoutClash_3 : decode c_Tt_beginWithoutClash 3 = .ok (.iload 4, 2) := by decide +kernel
theorem d_Tt_beginWithoutClash_5 : decode c_Tt_beginWithoutClash 5 = .ok (.aload_n 2, 1) := by decide +kernel
theorem d_Tt_beginWithoutClash_6 : decode c_Tt_beginWithoutClash 6 = .ok (.getfield 19, 3) := by decide +kernel
theorem d_Tt_beginWithoutClash_9 : decode c_Tt_beginWithoutClash 9 = .ok (.if_icmp .ge 16, 3) := by decide +kernel
theorem d_Tt_beginWithoutClash_12 : decode c_Tt_beginWithoutClash 12 = .ok (.aload_n 0, 1) := by decide +kernel
theorem d_Tt_beginWithoutClash_13 : decode c_Tt_beginWithoutClash 13 = .ok (.iload 4, 2) := by decide +kernel
theorem d_Tt_beginWithoutClash_15 : decode c_Tt_beginWithoutClash 15 = .ok (.iconst (-1), 1) := by decide +kernel
theorem d_Tt_beginWithoutClash_16 : decode c_Tt_beginWithoutClash 16 = .ok (.invokevirtual 43, 3) := by decide +kernel
theorem d_Tt_beginWithoutClash_19 : decode c_Tt_beginWithoutClash 19 = .ok (.iinc 4 1, 3) := by decide +kernel
theorem d_Tt_beginWithoutClash_22 : decode c_Tt_beginWithoutClash 22 = .ok (.goto (-19), 3) := by decide +kernel
theorem d_Tt_beginWithoutClash_25 : decode c_Tt_beginWithoutClash 25 = .ok (.iconst 0, 1) := by decide +kernel
theorem d_Tt_beginWithoutClash_26 : decode c_Tt_beginWithoutClash 26 = .ok (.istore 4, 2) := by decide +kernel
theorem d_Tt_beginWithoutClash_28 : decode c_Tt_beginWithoutClash 28 = .ok (.iload 4, 2) := by decide +kernel
theorem d_Tt_beginWithoutClash_30 : decode c_Tt_beginWithoutClash 30 = .ok (.aload_n 1, 1) := by decide +kernel
theorem d_Tt_beginWithoutClash_31 : decode c_Tt_beginWithoutClash 31 = .ok (.getfield 54, 3) := by decide +kernel
theorem d_Tt_beginWithoutClash_34 : decode c_Tt_beginWithoutClash 34 = .ok (.if_icmp .ge 58, 3) := by decide +kernel
theorem d_Tt_beginWithoutClash_37 : decode c_Tt_beginWithoutClash 37 = .ok (.aload_n 1, 1) := by decide +kernel
theorem d_Tt_beginWithoutClash_38 : decode c_Tt_beginWithoutClash 38 = .ok (.iload 4, 2) := by decide +kernel
theorem d_Tt_beginWithoutClash_40 : decode c_Tt_beginWithoutClash 40 = .ok (.invokevirtual 55, 3) := by decide +kernel
theorem d_Tt_beginWithoutClash_43 : decode c_Tt_beginWithoutClash 43 = .ok (.istore 5, 2) := by decide +kernel
theorem d_Tt_beginWithoutClash_45 : decode c_Tt_beginWithoutClash 45 = .ok (.iconst 0, 1) := by decide +kernel
theorem d_Tt_beginWithoutClash_46 : decode c_Tt_beginWithoutClash 46 = .ok (.istore 6, 2) := by decide +kernel
theorem d_Tt_beginWithoutClash_48 : decode c_Tt_beginWithoutClash 48 = .ok (.iload 6, 2) := by decide +kernel
theorem d_Tt_beginWithoutClash_50 : decode c_Tt_beginWithoutClash 50 = .ok (.aload_n 2, 1) := by decide +kernel
theorem d_Tt_beginWithoutClash_51 : decode c_Tt_beginWithoutClash 51 = .ok (.getfield 19, 3) := by decide +kernel
theorem d_Tt_beginWithoutClash_54 : decode c_Tt_beginWithoutClash 54 = .ok (.if_icmp .ge 32, 3) := by decide +kernel
theorem d_Tt_beginWithoutClash_57 : decode c_Tt_beginWithoutClash 57 = .ok (.aload_n 2, 1) := by decide +kernel
theorem d_Tt_beginWithoutClash_58 : decode c_Tt_beginWithoutClash 58 = .ok (.iload 6, 2) := by decide +kernel
theorem d_Tt_beginWithoutClash_60 : decode c_Tt_beginWithoutClash 60 = .ok (.invokevirtual 25, 3) := by decide +kernel
theorem d_Tt_beginWithoutClash_63 : decode c_Tt_beginWithoutClash 63 = .ok (.getfield 29, 3) := by decide +kernel
theorem d_Tt_beginWithoutClash_66 : decode c_Tt_beginWithoutClash 66 = .ok (.iload 5, 2) := by decide +kernel
theorem d_Tt_beginWithoutClash_68 : decode c_Tt_beginWithoutClash 68 = .ok (.if_icmp .ne 12, 3) := by decide +kernel
theorem d_Tt_beginWithoutClash_71 : decode c_Tt_beginWithoutClash 71 = .ok (.aload_n 0, 1) := by decide +kernel
theorem d_Tt_beginWithoutClash_72 : decode c_Tt_beginWithoutClash 72 = .ok (.aload_n 1, 1) := by decide +kernel
theorem d_Tt_beginWithoutClash_73 : decode c_Tt_beginWithoutClash 73 = .ok (.aload_n 2, 1) := by decide +kernel
theorem d_Tt_beginWithoutClash_74 : decode c_Tt_beginWithoutClash 74 = .ok (.iload 6, 2) := by decide +kernel
theorem d_Tt_beginWithoutClash_76 : decode c_Tt_beginWithoutClash 76 = .ok (.iload_n 3, 1) := by decide +kernel
theorem d_Tt_beginWithoutClash_77 : decode c_Tt_beginWithoutClash 77 = .ok (.invokevirtual 59, 3) := by decide +kernel
theorem d_Tt_beginWithoutClash_80 : decode c_Tt_beginWithoutClash 80 = .ok (.iinc 6 1, 3) := by decide +kernel
theorem d_Tt_beginWithoutClash_83 : decode c_Tt_beginWithoutClash 83 = .ok (.goto (-35), 3) := by decide +kernel
theorem d_Tt_beginWithoutClash_86 : decode c_Tt_beginWithoutClash 86 = .ok (.iinc 4 1, 3) := by decide +kernel
theorem d_Tt_beginWithoutClash_89 : decode c_Tt_beginWithoutClash 89 = .ok (.goto (-61), 3) := by decide +kernel
theorem d_Tt_beginWithoutClash_92 : decode c_Tt_beginWithoutClash 92 = .ok (.return_, 1) := by decide +kernel
theorem d_GR_putOff_0 : decode c_GR_putOff 0 = .ok (.aload_n 0, 1) := by decide +kernel
theorem d_GR_putOff_1 : decode c_GR_putOff 1 = .ok (.getfield 35, 3) := by decide +kernel
theorem d_GR_putOff_4 : decode c_GR_putOff 4 = .ok (.iload_n 1, 1) := by decide +kernel
theorem d_GR_putOff_5 : decode c_GR_putOff 5 = .ok (.invokevirtual 175, 3) := by decide +kernel
theorem d_GR_putOff_8 : decode c_GR_putOff 8 = .ok (.ifCond .ne 6, 3) := by decide +kernel
theorem d_GR_putOff_11 : decode c_GR_putOff 11 = .ok (.bipush (-2), 2) := by decide +kernel
theorem d_GR_putOff_13 : decode c_GR_putOff 13 = .ok (.ireturn, 1) := by decide +kernel
theorem d_GR_putOff_14 : decode c_GR_putOff 14 = .ok (.aload_n 0, 1) := by decide +kernel
theorem d_GR_putOff_15 : decode c_GR_putOff 15 = .ok (.getfield 42, 3) := by decide +kernel
theorem d_GR_putOff_18 : decode c_GR_putOff 18 = .ok (.aload_n 0, 1) := by decide +kernel
theorem d_GR_putOff_19 : decode c_GR_putOff 19 = .ok (.getfield 24, 3) := by decide +kernel
theorem d_GR_putOff_22 : decode c_GR_putOff 22 = .ok (.aload_n 0, 1) := by decide +kernel
theorem d_GR_putOff_23 : decode c_GR_putOff 23 = .ok (.getfield 35, 3) := by decide +kernel
theorem d_GR_putOff_26 : decode c_GR_putOff 26 = .ok (.aload_n 0, 1) := by decide +kernel
theorem d_GR_putOff_27 : decode c_GR_putOff 27 = .ok (.getfield 28, 3) := by decide +kernel
theorem d_GR_putOff_30 : decode c_GR_putOff 30 = .ok (.iconst 0, 1) := by decide +kernel
theorem d_GR_putOff_31 : decode c_GR_putOff 31 = .ok (.iaload, 1) := by decide +kernel
theorem d_GR_putOff_32 : decode c_GR_putOff 32 = .ok (.invokevirtual 191, 3) := by decide +kernel
theorem d_GR_putOff_35 : decode c_GR_putOff 35 = .ok (.aload_n 0, 1) := by decide +kernel
theorem d_GR_putOff_36 : decode c_GR_putOff 36 = .ok (.getfield 42, 3) := by decide +kernel
theorem d_GR_putOff_39 : decode c_GR_putOff 39 = .ok (.iload_n 1, 1) := by decide +kernel
theorem d_GR_putOff_40 : decode c_GR_putOff 40 = .ok (.invokevirtual 195, 3) := by decide +kernel
theorem d_GR_putOff_43 : decode c_GR_putOff 43 = .ok (.ireturn, 1) := by decide +kernel
theorem d_Ts_breakerOf_0 : decode c_Ts_breakerOf 0 = .ok (.iconst 0, 1) := by decide +kernel
theorem d_Ts_breakerOf_1 : decode c_Ts_breakerOf 1 = .ok (.istore_n 3, 1) := by decide +kernel
theorem d_Ts_breakerOf_2 : decode c_Ts_breakerOf 2 = .ok (.iconst 0, 1) := by decide +kernel
theorem d_Ts_breakerOf_3 : decode c_Ts_breakerOf 3 = .ok (.istore 4, 2) := by decide +kernel
theorem d_Ts_breakerOf_5 : decode c_Ts_breakerOf 5 = .ok (.iload 4, 2) := by decide +kernel
theorem d_Ts_breakerOf_7 : decode c_Ts_breakerOf 7 = .ok (.aload_n 0, 1) := by decide +kernel
theorem d_Ts_breakerOf_8 : decode c_Ts_breakerOf 8 = .ok (.getfield 22, 3) := by decide +kernel
theorem d_Ts_breakerOf_11 : decode c_Ts_breakerOf 11 = .ok (.if_icmp .ge 44, 3) := by decide +kernel
theorem d_Ts_breakerOf_14 : decode c_Ts_breakerOf 14 = .ok (.aload_n 0, 1) := by decide +kernel
theorem d_Ts_breakerOf_15 : decode c_Ts_breakerOf 15 = .ok (.iload 4, 2) := by decide +kernel
theorem d_Ts_breakerOf_17 : decode c_Ts_breakerOf 17 = .ok (.invokevirtual 34, 3) := by decide +kernel
theorem d_Ts_breakerOf_20 : decode c_Ts_breakerOf 20 = .ok (.astore 5, 2) := by decide +kernel
theorem d_Ts_breakerOf_22 : decode c_Ts_breakerOf 22 = .ok (.aload 5, 2) := by decide +kernel
theorem d_Ts_breakerOf_24 : decode c_Ts_breakerOf 24 = .ok (.getfield 38, 3) := by decide +kernel
theorem d_Ts_breakerOf_27 : decode c_Ts_breakerOf 27 = .ok (.iload_n 1, 1) := by decide +kernel
theorem d_Ts_breakerOf_28 : decode c_Ts_breakerOf 28 = .ok (.if_icmp .ne 21, 3) := by decide +kernel
theorem d_Ts_breakerOf_31 : decode c_Ts_breakerOf 31 = .ok (.iload_n 3, 1) := by decide +kernel
theorem d_Ts_breakerOf_32 : decode c_Ts_breakerOf 32 = .ok (.aload 5, 2) := by decide +kernel
theorem d_Ts_breakerOf_34 : decode c_Ts_breakerOf 34 = .ok (.getfield 47, 3) := by decide +kernel
theorem d_Ts_breakerOf_37 : decode c_Ts_breakerOf 37 = .ok (.iconst 1, 1) := by decide +kernel
theorem d_Ts_breakerOf_38 : decode c_Ts_breakerOf 38 = .ok (.iadd, 1) := by decide +kernel
theorem d_Ts_breakerOf_39 : decode c_Ts_breakerOf 39 = .ok (.iadd, 1) := by decide +kernel
theorem d_Ts_breakerOf_40 : decode c_Ts_breakerOf 40 = .ok (.istore_n 3, 1) := by decide +kernel
theorem d_Ts_breakerOf_41 : decode c_Ts_breakerOf 41 = .ok (.iload_n 3, 1) := by decide +kernel
theorem d_Ts_breakerOf_42 : decode c_Ts_breakerOf 42 = .ok (.iload_n 2, 1) := by decide +kernel
theorem d_Ts_breakerOf_43 : decode c_Ts_breakerOf 43 = .ok (.if_icmp .le 6, 3) := by decide +kernel
theorem d_Ts_breakerOf_46 : decode c_Ts_breakerOf 46 = .ok (.iload 4, 2) := by decide +kernel
theorem d_Ts_breakerOf_48 : decode c_Ts_breakerOf 48 = .ok (.ireturn, 1) := by decide +kernel
theorem d_Ts_breakerOf_49 : decode c_Ts_breakerOf 49 = .ok (.iinc 4 1, 3) := by decide +kernel
theorem d_Ts_breakerOf_52 : decode c_Ts_breakerOf 52 = .ok (.goto (-47), 3) := by decide +kernel
theorem d_Ts_breakerOf_55 : decode c_Ts_breakerOf 55 = .ok (.iconst (-1), 1) := by decide +kernel
theorem d_Ts_breakerOf_56 : decode c_Ts_breakerOf 56 = .ok (.ireturn, 1) := by decide +kernel
def f_GR_clash (σ : Sg) (v1 : Int32) (v2 : Int32) (v3 : Int32) : Option (Int32 × Sg) :=
  if (f_Ts_has σ v1) = 0 then
    some ((-2), σ)
  else
    if (f_Ts_has σ v2) = 0 then
      some ((-2), σ)
    else
      if v1 = v2 then
        some ((-2), σ)
      else
        if (f_GR_isBelow v3 2) = 0 then
          some ((-2), σ)
        else
          (f_Tt_beginAsTold σ).bind fun σ6 =>
            if v3 = 0 then
              if (f_Tt_collide σ6 v1 v2 (σ6.1 17 0)) = 0 then some (0, σ6) else some (1, σ6)
            else
              if (f_Tt_collide σ6 v1 v2 (σ6.1 17 0)) = 0 then some ((-1), σ6) else some (f_GR_guilty σ6 v1 v2, σ6)
set_option maxHeartbeats 4000000 in
theorem j_GR_clash {V : Vx} {X : Xx} {r : Int32} {σ' : Sg} (σ : Sg) (v1 : Int32) (v2 : Int32) (v3 : Int32) (hf : f_GR_clash σ v1 v2 v3 = some (r, σ')) : J V X (k2_rm 4 99) c_GR_clash R_GR 5 (some .int) (Qr V X (some (.int r)) σ') σ 0 [(0, rf V 0), (1, .int v1), (2, .int v2), (3, .int v3)] [] := by
  unfold f_GR_clash at hf
  refine J_aload_n (pc' := 1) d_GR_clash_0 rfl 0 rfl ?_
  refine J_getR (pc' := 4) d_GR_clash_1 rfl sh_0 fl_GR_35 rfl ?_
  refine J_iload_n (pc' := 5) d_GR_clash_4 rfl 1 rfl ?_
  refine J_V (pc' := 8) (as := [.int v1]) (rest := []) (st' := [.int (f_Ts_has σ v1)]) d_GR_clash_5 rfl sh_18 rfl mv_GR_175 (ct_Ts_has V _ σ v1) rfl rfl ⟨Nat.le_of_ble_eq_true rfl, Nat.le_of_ble_eq_true rfl⟩ ⟨rfl, rfl⟩ (Nat.le_of_ble_eq_true rfl) rfl ?_
  refine J_if_eq (pc' := 11) (tgt := 35) d_GR_clash_8 rfl (by decide) (fun hc1 => ?_) (fun hc1 => ?_)
  · have hf := brT hc1 hf
    refine J_bipush (pc' := 37) (v := (-2)) d_GR_clash_35 rfl bc_m2 ?_
    obtain ⟨rfl, rfl⟩ := resE hf
    exact J_iret d_GR_clash_37
  · have hf := brF hc1 hf
    refine J_aload_n (pc' := 12) d_GR_clash_11 rfl 0 rfl ?_
    refine J_getR (pc' := 15) d_GR_clash_12 rfl sh_0 fl_GR_35 rfl ?_
    refine J_iload_n (pc' := 16) d_GR_clash_15 rfl 2 rfl ?_
    refine J_V (pc' := 19) (as := [.int v2]) (rest := []) (st' := [.int (f_Ts_has σ v2)]) d_GR_clash_16 rfl sh_18 rfl mv_GR_175 (ct_Ts_has V _ σ v2) rfl rfl ⟨Nat.le_of_ble_eq_true rfl, Nat.le_of_ble_eq_true rfl⟩ ⟨rfl, rfl⟩ (Nat.le_of_ble_eq_true rfl) rfl ?_
    refine J_if_eq (pc' := 22) (tgt := 35) d_GR_clash_19 rfl (by decide) (fun hc2 => ?_) (fun hc2 => ?_)
    · have hf := brT hc2 hf
      refine J_bipush (pc' := 37) (v := (-2)) d_GR_clash_35 rfl bc_m2 ?_
      obtain ⟨rfl, rfl⟩ := resE hf
      exact J_iret d_GR_clash_37
    · have hf := brF hc2 hf
      refine J_iload_n (pc' := 23) d_GR_clash_22 rfl 1 rfl ?_
      refine J_iload_n (pc' := 24) d_GR_clash_23 rfl 2 rfl ?_
      refine J_icmp_eq (pc' := 27) (tgt := 35) d_GR_clash_24 rfl (by decide) (fun hc3 => ?_) (fun hc3 => ?_)
      · have hf := brT hc3 hf
        refine J_bipush (pc' := 37) (v := (-2)) d_GR_clash_35 rfl bc_m2 ?_
        obtain ⟨rfl, rfl⟩ := resE hf
        exact J_iret d_GR_clash_37
      · have hf := brF hc3 hf
        refine J_iload_n (pc' := 28) d_GR_clash_27 rfl 3 rfl ?_
        refine J_iconst (pc' := 29) (v := 2) d_GR_clash_28 rfl ic_2 ?_
        refine J_S (pc' := 32) (as := [.int v3, .int 2]) (rest := []) (st' := [.int (f_GR_isBelow v3 2)]) d_GR_clash_29 rfl ms_GR_67 (ct_GR_isBelow V _ σ v3 2) rfl rfl ⟨Nat.le_of_ble_eq_true rfl, Nat.le_of_ble_eq_true rfl⟩ ⟨rfl, rfl⟩ (Nat.le_of_ble_eq_true rfl) rfl ?_
        refine J_if_ne (pc' := 35) (tgt := 38) d_GR_clash_32 rfl (by decide) (fun hc4 => ?_) (fun hc4 => ?_)
        · have hf := brF hc4 hf
          refine J_aload_n (pc' := 39) d_GR_clash_38 rfl 0 rfl ?_
          refine J_getR (pc' := 42) d_GR_clash_39 rfl sh_0 fl_GR_42 rfl ?_
          refine J_aload_n (pc' := 43) d_GR_clash_42 rfl 0 rfl ?_
          refine J_getR (pc' := 46) d_GR_clash_43 rfl sh_0 fl_GR_24 rfl ?_
          refine J_aload_n (pc' := 47) d_GR_clash_46 rfl 0 rfl ?_
          refine J_getR (pc' := 50) d_GR_clash_47 rfl sh_0 fl_GR_35 rfl ?_
          obtain ⟨σ6, hq5, hf⟩ := bpE hf
          refine J_V (pc' := 53) (as := [rf V 5, rf V 18]) (rest := []) (st' := []) d_GR_clash_50 rfl sh_41 rfl mv_GR_176 (ct_Tt_beginAsTold V _ σ hq5) rfl rfl ⟨Nat.le_of_ble_eq_true rfl, Nat.le_of_ble_eq_true rfl⟩ ⟨rfl, rfl⟩ (Nat.le_of_ble_eq_true rfl) rfl ?_
          refine J_aload_n (pc' := 54) d_GR_clash_53 rfl 0 rfl ?_
          refine J_getR (pc' := 57) d_GR_clash_54 rfl sh_0 fl_GR_42 rfl ?_
          refine J_aload_n (pc' := 58) d_GR_clash_57 rfl 0 rfl ?_
          refine J_getR (pc' := 61) d_GR_clash_58 rfl sh_0 fl_GR_24 rfl ?_
          refine J_aload_n (pc' := 62) d_GR_clash_61 rfl 0 rfl ?_
          refine J_getR (pc' := 65) d_GR_clash_62 rfl sh_0 fl_GR_35 rfl ?_
          refine J_iload_n (pc' := 66) d_GR_clash_65 rfl 1 rfl ?_
          refine J_iload_n (pc' := 67) d_GR_clash_66 rfl 2 rfl ?_
          refine J_aload_n (pc' := 68) d_GR_clash_67 rfl 0 rfl ?_
          refine J_getR (pc' := 71) d_GR_clash_68 rfl sh_0 fl_GR_28 rfl ?_
          refine J_iconst (pc' := 72) (v := 0) d_GR_clash_71 rfl ic_0 ?_
          refine J_ial (pc' := 73) d_GR_clash_72 rfl sh_17 (vin_c (by decide)) ?_
          refine J_V (pc' := 76) (as := [rf V 5, rf V 18, .int v1, .int v2, .int (σ6.1 17 0)]) (rest := []) (st' := [.int (f_Tt_collide σ6 v1 v2 (σ6.1 17 0))]) d_GR_clash_73 rfl sh_41 rfl mv_GR_180 (ct_Tt_collide V _ σ6 v1 v2 (σ6.1 17 0)) rfl rfl ⟨Nat.le_of_ble_eq_true rfl, Nat.le_of_ble_eq_true rfl⟩ ⟨rfl, rfl⟩ (Nat.le_of_ble_eq_true rfl) rfl ?_
          refine J_istore (pc' := 78) (lv' := [(4, .int (f_Tt_collide σ6 v1 v2 (σ6.1 17 0))), (0, rf V 0), (1, .int v1), (2, .int v2), (3, .int v3)]) d_GR_clash_76 rfl (by decide) rfl ?_
          refine J_iload_n (pc' := 79) d_GR_clash_78 rfl 4 rfl ?_
          refine J_if_ne (pc' := 82) (tgt := 93) d_GR_clash_79 rfl (by decide) (fun hc7 => ?_) (fun hc7 => ?_)
          · have hf := brF hc7 hf
            refine J_iload (pc' := 95) d_GR_clash_93 rfl 0 rfl ?_
            refine J_if_eq (pc' := 98) (tgt := 107) d_GR_clash_95 rfl (by decide) (fun hc8 => ?_) (fun hc8 => ?_)
            · have hf := brT hc8 hf
              refine J_iconst (pc' := 108) (v := (-1)) d_GR_clash_107 rfl ic_m1 ?_
              obtain ⟨rfl, rfl⟩ := resE hf
              exact J_iret d_GR_clash_108
            · have hf := brF hc8 hf
              refine J_aload_n (pc' := 99) d_GR_clash_98 rfl 1 rfl ?_
              refine J_iload_n (pc' := 100) d_GR_clash_99 rfl 2 rfl ?_
              refine J_iload_n (pc' := 101) d_GR_clash_100 rfl 3 rfl ?_
              refine J_V (pc' := 104) (as := [.int v1, .int v2]) (rest := []) (st' := [.int (f_GR_guilty σ6 v1 v2)]) d_GR_clash_101 rfl sh_0 rfl mv_GR_184 (ct_GR_guilty V _ σ6 v1 v2) rfl rfl ⟨Nat.le_of_ble_eq_true rfl, Nat.le_of_ble_eq_true rfl⟩ ⟨rfl, rfl⟩ (Nat.le_of_ble_eq_true rfl) rfl ?_
              refine J_goto (tgt := 108) d_GR_clash_104 (by decide) ?_
              obtain ⟨rfl, rfl⟩ := resE hf
              exact J_iret d_GR_clash_108
          · have hf := brT hc7 hf
            refine J_iload (pc' := 84) d_GR_clash_82 rfl 0 rfl ?_
            refine J_if_eq (pc' := 87) (tgt := 91) d_GR_clash_84 rfl (by decide) (fun hc9 => ?_) (fun hc9 => ?_)
            · have hf := brT hc9 hf
              refine J_iconst (pc' := 92) (v := 0) d_GR_clash_91 rfl ic_0 ?_
              obtain ⟨rfl, rfl⟩ := resE hf
              exact J_iret d_GR_clash_92
            · have hf := brF hc9 hf
              refine J_iconst (pc' := 88) (v := 1) d_GR_clash_87 rfl ic_1 ?_
              refine J_goto (tgt := 92) d_GR_clash_88 (by decide) ?_
              obtain ⟨rfl, rfl⟩ := resE hf
              exact J_iret d_GR_clash_92
        · have hf := brT hc4 hf
          refine J_bipush (pc' := 37) (v := (-2)) d_GR_clash_35 rfl bc_m2 ?_
          obtain ⟨rfl, rfl⟩ := resE hf
          exact J_iret d_GR_clash_37
theorem ct_GR_clash (V : Vx) (l : Launch) (σ : Sg) (v1 : Int32) (v2 : Int32) (v3 : Int32) {r : Int32} {σ' : Sg} (hf : f_GR_clash σ v1 v2 v3 = some (r, σ')) : Ct V l y_GR_clash c_GR_clash 5 (some .int) (k2_rm 4 99) [rf V 0, .int v1, .int v2, .int v3] σ (some (.int r)) σ' := Ct.ofJ (by decide +kernel) (Nat.le_of_ble_eq_true rfl) fun X _ => j_GR_clash _ v1 v2 v3 hf
def f_Tt_pairs_47 (k6 : Sg → Int32 → Int32 → Int32 → Option Int32) (k21 : Sg → Int32 → Int32 → Int32 → Int32 → Option Int32) (σ : Sg) (v3 : Int32) (v4 : Int32) (v5 : Int32) (v6 : Int32) : Option Int32 :=
  k21 σ v3 v4 v5 (v6 + 1)
set_option maxHeartbeats 4000000 in
theorem j_Tt_pairs_47 {V : Vx} {X : Xx} {σ : Sg} {r : Int32} {k6 : Sg → Int32 → Int32 → Int32 → Option Int32} {k21 : Sg → Int32 → Int32 → Int32 → Int32 → Option Int32} (hk6 : ∀ (v3 : Int32) (v4 : Int32) (v5 : Int32), k6 σ v3 v4 v5 = some r → J V X (k2_rm 4 99) c_Tt_pairs R_Tt 7 (some .int) (Qr V X (some (.int r)) σ) σ 6 [(0, rf V 41), (1, rf V 5), (2, rf V 18), (3, .int v3), (4, .int v4), (5, .int v5)] []) (hk21 : ∀ (v3 : Int32) (v4 : Int32) (v5 : Int32) (v6 : Int32), k21 σ v3 v4 v5 v6 = some r → J V X (k2_rm 4 99) c_Tt_pairs R_Tt 7 (some .int) (Qr V X (some (.int r)) σ) σ 21 [(0, rf V 41), (1, rf V 5), (2, rf V 18), (3, .int v3), (4, .int v4), (5, .int v5), (6, .int v6)] []) (v3 : Int32) (v4 : Int32) (v5 : Int32) (v6 : Int32) (hf : f_Tt_pairs_47 k6 k21 σ v3 v4 v5 v6 = some r) : J V X (k2_rm 4 99) c_Tt_pairs R_Tt 7 (some .int) (Qr V X (some (.int r)) σ) σ 47 [(0, rf V 41), (1, rf V 5), (2, rf V 18), (3, .int v3), (4, .int v4), (5, .int v5), (6, .int v6)] [] := by
  unfold f_Tt_pairs_47 at hf
  refine J_iinc (pc' := 50) (j := 6) (v := 1) (lv' := [(6, .int (v6 + 1)), (0, rf V 41), (1, rf V 5), (2, rf V 18), (3, .int v3), (4, .int v4), (5, .int v5)]) d_Tt_pairs_47 rfl rfl ic_1 (by decide) rfl ?_
  refine J_goto (tgt := 21) d_Tt_pairs_50 (by decide) ?_
  refine J_pick [1, 2, 3, 4, 5, 6, 0] rfl ?_
  exact hk21 _ _ _ _ hf
def f_Tt_pairs_21 (k6 : Sg → Int32 → Int32 → Int32 → Option Int32) : Nat → Sg → Int32 → Int32 → Int32 → Int32 → Option Int32
  | 0, _, _, _, _, _ => none
  | n + 1, σ, v3, v4, v5, v6 =>
    if (σ.1 18 2) ≤ v6 then
      k6 σ v3 v4 (v5 + 1)
    else
      if (f_Tt_collide σ v5 v6 v3) = 0 then f_Tt_pairs_47 k6 (f_Tt_pairs_21 k6 n) σ v3 v4 v5 v6 else f_Tt_pairs_47 k6 (f_Tt_pairs_21 k6 n) σ v3 (v4 + 1) v5 v6
theorem f_Tt_pairs_21_s (k6 : Sg → Int32 → Int32 → Int32 → Option Int32) (n : Nat) (σ : Sg) (v3 : Int32) (v4 : Int32) (v5 : Int32) (v6 : Int32) : f_Tt_pairs_21 k6 (n + 1) σ v3 v4 v5 v6 =
    if (σ.1 18 2) ≤ v6 then
      k6 σ v3 v4 (v5 + 1)
    else
      if (f_Tt_collide σ v5 v6 v3) = 0 then f_Tt_pairs_47 k6 (f_Tt_pairs_21 k6 n) σ v3 v4 v5 v6 else f_Tt_pairs_47 k6 (f_Tt_pairs_21 k6 n) σ v3 (v4 + 1) v5 v6 := rfl
set_option maxHeartbeats 4000000 in
theorem j_Tt_pairs_21 {V : Vx} {X : Xx} {σ : Sg} {r : Int32} {k6 : Sg → Int32 → Int32 → Int32 → Option Int32} (hk6 : ∀ (v3 : Int32) (v4 : Int32) (v5 : Int32), k6 σ v3 v4 v5 = some r → J V X (k2_rm 4 99) c_Tt_pairs R_Tt 7 (some .int) (Qr V X (some (.int r)) σ) σ 6 [(0, rf V 41), (1, rf V 5), (2, rf V 18), (3, .int v3), (4, .int v4), (5, .int v5)] []) : ∀ (n : Nat) (v3 : Int32) (v4 : Int32) (v5 : Int32) (v6 : Int32), f_Tt_pairs_21 k6 n σ v3 v4 v5 v6 = some r → J V X (k2_rm 4 99) c_Tt_pairs R_Tt 7 (some .int) (Qr V X (some (.int r)) σ) σ 21 [(0, rf V 41), (1, rf V 5), (2, rf V 18), (3, .int v3), (4, .int v4), (5, .int v5), (6, .int v6)] [] := by
  intro n
  induction n with
  | zero => intro v3 v4 v5 v6 hf; exact nn hf
  | succ n ih =>
    intro v3 v4 v5 v6 hf
    rw [f_Tt_pairs_21_s] at hf
    refine J_iload (pc' := 23) d_Tt_pairs_21 rfl 6 rfl ?_
    refine J_aload_n (pc' := 24) d_Tt_pairs_23 rfl 2 rfl ?_
    refine J_getI (pc' := 27) d_Tt_pairs_24 rfl sh_18 fl_Tt_19 rfl ?_
    refine J_icmp_ge (pc' := 30) (tgt := 53) d_Tt_pairs_27 rfl (by decide) (fun hc2 => ?_) (fun hc2 => ?_)
    · have hf := brT hc2 hf
      refine J_iinc (pc' := 56) (j := 5) (v := 1) (lv' := [(5, .int (v5 + 1)), (0, rf V 41), (1, rf V 5), (2, rf V 18), (3, .int v3), (4, .int v4), (6, .int v6)]) d_Tt_pairs_53 rfl rfl ic_1 (by decide) rfl ?_
      refine J_goto (tgt := 6) d_Tt_pairs_56 (by decide) ?_
      refine J_pick [1, 2, 3, 4, 5, 0] rfl ?_
      exact hk6 _ _ _ hf
    · have hf := brF hc2 hf
      refine J_aload_n (pc' := 31) d_Tt_pairs_30 rfl 0 rfl ?_
      refine J_aload_n (pc' := 32) d_Tt_pairs_31 rfl 1 rfl ?_
      refine J_aload_n (pc' := 33) d_Tt_pairs_32 rfl 2 rfl ?_
      refine J_iload (pc' := 35) d_Tt_pairs_33 rfl 5 rfl ?_
      refine J_iload (pc' := 37) d_Tt_pairs_35 rfl 6 rfl ?_
      refine J_iload_n (pc' := 38) d_Tt_pairs_37 rfl 3 rfl ?_
      refine J_V (pc' := 41) (as := [rf V 5, rf V 18, .int v5, .int v6, .int v3]) (rest := []) (st' := [.int (f_Tt_collide σ v5 v6 v3)]) d_Tt_pairs_38 rfl sh_41 rfl mv_Tt_71 (ct_Tt_collide V _ σ v5 v6 v3) rfl rfl ⟨Nat.le_of_ble_eq_true rfl, Nat.le_of_ble_eq_true rfl⟩ ⟨rfl, rfl⟩ (Nat.le_of_ble_eq_true rfl) rfl ?_
      refine J_if_eq (pc' := 44) (tgt := 47) d_Tt_pairs_41 rfl (by decide) (fun hc3 => ?_) (fun hc3 => ?_)
      · have hf := brT hc3 hf
        exact j_Tt_pairs_47 hk6 ih _ _ _ _ hf
      · have hf := brF hc3 hf
        refine J_iinc (pc' := 47) (j := 4) (v := 1) (lv' := [(4, .int (v4 + 1)), (0, rf V 41), (1, rf V 5), (2, rf V 18), (3, .int v3), (5, .int v5), (6, .int v6)]) d_Tt_pairs_44 rfl rfl ic_1 (by decide) rfl ?_
        refine J_pick [1, 2, 3, 4, 0, 5, 6] rfl ?_
        exact j_Tt_pairs_47 hk6 ih _ _ _ _ hf
def f_Tt_pairs_6 : Nat → Sg → Int32 → Int32 → Int32 → Option Int32
  | 0, _, _, _, _ => none
  | n + 1, σ, v3, v4, v5 =>
    if (σ.1 18 2) ≤ v5 then some v4 else f_Tt_pairs_21 (f_Tt_pairs_6 n) FU σ v3 v4 v5 (v5 + 1)
theorem f_Tt_pairs_6_s (n : Nat) (σ : Sg) (v3 : Int32) (v4 : Int32) (v5 : Int32) : f_Tt_pairs_6 (n + 1) σ v3 v4 v5 =
    if (σ.1 18 2) ≤ v5 then some v4 else f_Tt_pairs_21 (f_Tt_pairs_6 n) FU σ v3 v4 v5 (v5 + 1) := rfl
set_option maxHeartbeats 4000000 in
theorem j_Tt_pairs_6 {V : Vx} {X : Xx} {σ : Sg} {r : Int32}  : ∀ (n : Nat) (v3 : Int32) (v4 : Int32) (v5 : Int32), f_Tt_pairs_6 n σ v3 v4 v5 = some r → J V X (k2_rm 4 99) c_Tt_pairs R_Tt 7 (some .int) (Qr V X (some (.int r)) σ) σ 6 [(0, rf V 41), (1, rf V 5), (2, rf V 18), (3, .int v3), (4, .int v4), (5, .int v5)] [] := by
  intro n
  induction n with
  | zero => intro v3 v4 v5 hf; exact nn hf
  | succ n ih =>
    intro v3 v4 v5 hf
    rw [f_Tt_pairs_6_s] at hf
    refine J_iload (pc' := 8) d_Tt_pairs_6 rfl 5 rfl ?_
    refine J_aload_n (pc' := 9) d_Tt_pairs_8 rfl 2 rfl ?_
    refine J_getI (pc' := 12) d_Tt_pairs_9 rfl sh_18 fl_Tt_19 rfl ?_
    refine J_icmp_ge (pc' := 15) (tgt := 59) d_Tt_pairs_12 rfl (by decide) (fun hc1 => ?_) (fun hc1 => ?_)
    · have hf := brT hc1 hf
      refine J_iload (pc' := 61) d_Tt_pairs_59 rfl 4 rfl ?_
      obtain rfl := Option.some.inj hf
      exact J_iret d_Tt_pairs_61
    · have hf := brF hc1 hf
      refine J_iload (pc' := 17) d_Tt_pairs_15 rfl 5 rfl ?_
      refine J_iconst (pc' := 18) (v := 1) d_Tt_pairs_17 rfl ic_1 ?_
      refine J_iadd (pc' := 19) d_Tt_pairs_18 rfl ?_
      refine J_istore (pc' := 21) (lv' := [(6, .int (v5 + 1)), (0, rf V 41), (1, rf V 5), (2, rf V 18), (3, .int v3), (4, .int v4), (5, .int v5)]) d_Tt_pairs_19 rfl (by decide) rfl ?_
      refine J_pick [1, 2, 3, 4, 5, 6, 0] rfl ?_
      exact j_Tt_pairs_21 ih FU _ _ _ _ hf
def f_Tt_pairs (σ : Sg) (v3 : Int32) : Option Int32 :=
  f_Tt_pairs_6 FU σ v3 0 0
set_option maxHeartbeats 4000000 in
theorem j_Tt_pairs {V : Vx} {X : Xx} {r : Int32} (σ : Sg) (v3 : Int32) (hf : f_Tt_pairs σ v3 = some r) : J V X (k2_rm 4 99) c_Tt_pairs R_Tt 7 (some .int) (Qr V X (some (.int r)) σ) σ 0 [(0, rf V 41), (1, rf V 5), (2, rf V 18), (3, .int v3)] [] := by
  unfold f_Tt_pairs at hf
  refine J_iconst (pc' := 1) (v := 0) d_Tt_pairs_0 rfl ic_0 ?_
  refine J_istore (pc' := 3) (lv' := [(4, .int 0), (0, rf V 41), (1, rf V 5), (2, rf V 18), (3, .int v3)]) d_Tt_pairs_1 rfl (by decide) rfl ?_
  refine J_iconst (pc' := 4) (v := 0) d_Tt_pairs_3 rfl ic_0 ?_
  refine J_istore (pc' := 6) (lv' := [(5, .int 0), (4, .int 0), (0, rf V 41), (1, rf V 5), (2, rf V 18), (3, .int v3)]) d_Tt_pairs_4 rfl (by decide) rfl ?_
  refine J_pick [2, 3, 4, 5, 1, 0] rfl ?_
  exact j_Tt_pairs_6 FU _ _ _ hf
theorem ct_Tt_pairs (V : Vx) (l : Launch) (σ : Sg) (v3 : Int32) {r : Int32} (hf : f_Tt_pairs σ v3 = some r) : Ct V l y_Tt_pairs c_Tt_pairs 7 (some .int) (k2_rm 4 99) [rf V 41, rf V 5, rf V 18, .int v3] σ (some (.int r)) σ := Ct.ofJ (by decide +kernel) (Nat.le_of_ble_eq_true rfl) fun X _ => j_Tt_pairs _ v3 hf
def f_GR_clashes (σ : Sg)  : Option (Int32 × Sg) :=
  (f_Tt_beginAsTold σ).bind fun σ2 =>
    (f_Tt_pairs σ2 (σ2.1 17 0)).bind fun r4 =>
      some (r4, σ2)
set_option maxHeartbeats 4000000 in
theorem j_GR_clashes {V : Vx} {X : Xx} {r : Int32} {σ' : Sg} (σ : Sg) (hf : f_GR_clashes σ = some (r, σ')) : J V X (k2_rm 5 125) c_GR_clashes R_GR 1 (some .int) (Qr V X (some (.int r)) σ') σ 0 [(0, rf V 0)] [] := by
  unfold f_GR_clashes at hf
  refine J_aload_n (pc' := 1) d_GR_clashes_0 rfl 0 rfl ?_
  refine J_getR (pc' := 4) d_GR_clashes_1 rfl sh_0 fl_GR_42 rfl ?_
  refine J_aload_n (pc' := 5) d_GR_clashes_4 rfl 0 rfl ?_
  refine J_getR (pc' := 8) d_GR_clashes_5 rfl sh_0 fl_GR_24 rfl ?_
  refine J_aload_n (pc' := 9) d_GR_clashes_8 rfl 0 rfl ?_
  refine J_getR (pc' := 12) d_GR_clashes_9 rfl sh_0 fl_GR_35 rfl ?_
  obtain ⟨σ2, hq1, hf⟩ := bpE hf
  refine J_V (pc' := 15) (as := [rf V 5, rf V 18]) (rest := []) (st' := []) d_GR_clashes_12 rfl sh_41 rfl mv_GR_176 (ct_Tt_beginAsTold V _ σ hq1) rfl rfl ⟨Nat.le_of_ble_eq_true rfl, Nat.le_of_ble_eq_true rfl⟩ ⟨rfl, rfl⟩ (Nat.le_of_ble_eq_true rfl) rfl ?_
  refine J_aload_n (pc' := 16) d_GR_clashes_15 rfl 0 rfl ?_
  refine J_getR (pc' := 19) d_GR_clashes_16 rfl sh_0 fl_GR_42 rfl ?_
  refine J_aload_n (pc' := 20) d_GR_clashes_19 rfl 0 rfl ?_
  refine J_getR (pc' := 23) d_GR_clashes_20 rfl sh_0 fl_GR_24 rfl ?_
  refine J_aload_n (pc' := 24) d_GR_clashes_23 rfl 0 rfl ?_
  refine J_getR (pc' := 27) d_GR_clashes_24 rfl sh_0 fl_GR_35 rfl ?_
  refine J_aload_n (pc' := 28) d_GR_clashes_27 rfl 0 rfl ?_
  refine J_getR (pc' := 31) d_GR_clashes_28 rfl sh_0 fl_GR_28 rfl ?_
  refine J_iconst (pc' := 32) (v := 0) d_GR_clashes_31 rfl ic_0 ?_
  refine J_ial (pc' := 33) d_GR_clashes_32 rfl sh_17 (vin_c (by decide)) ?_
  obtain ⟨r4, hq3, hf⟩ := bpE hf
  refine J_V (pc' := 36) (as := [rf V 5, rf V 18, .int (σ2.1 17 0)]) (rest := []) (st' := [.int r4]) d_GR_clashes_33 rfl sh_41 rfl mv_GR_187 (ct_Tt_pairs V _ σ2 (σ2.1 17 0) hq3) rfl rfl ⟨Nat.le_of_ble_eq_true rfl, Nat.le_of_ble_eq_true rfl⟩ ⟨rfl, rfl⟩ (Nat.le_of_ble_eq_true rfl) rfl ?_
  obtain ⟨rfl, rfl⟩ := resE hf
  exact J_iret d_GR_clashes_36
theorem ct_GR_clashes (V : Vx) (l : Launch) (σ : Sg) {r : Int32} {σ' : Sg} (hf : f_GR_clashes σ = some (r, σ')) : Ct V l y_GR_clashes c_GR_clashes 1 (some .int) (k2_rm 5 125) [rf V 0] σ (some (.int r)) σ' := Ct.ofJ (by decide +kernel) (Nat.le_of_ble_eq_true rfl) fun X _ => j_GR_clashes _  hf
def f_Rs_ranked (σ : Sg) (v1 : Int32) : Int32 :=
  if (f_GR_isBelow v1 8) = 0 then (-1) else σ.1 8 v1.toNatClampNeg
set_option maxHeartbeats 4000000 in
theorem j_Rs_ranked {V : Vx} {X : Xx} {r : Int32} (σ : Sg) (v1 : Int32) (hf : f_Rs_ranked σ v1 = r) : J V X (k2_rm 1 21) c_Rs_ranked R_Rs 2 (some .int) (Qr V X (some (.int r)) σ) σ 0 [(0, rf V 5), (1, .int v1)] [] := by
  unfold f_Rs_ranked at hf
  refine J_iload_n (pc' := 1) d_Rs_ranked_0 rfl 1 rfl ?_
  refine J_bipush (pc' := 3) (v := 8) d_Rs_ranked_1 rfl bc_8 ?_
  refine J_S (pc' := 6) (as := [.int v1, .int 8]) (rest := []) (st' := [.int (f_GR_isBelow v1 8)]) d_Rs_ranked_3 rfl ms_Rs_36 (ct_GR_isBelow V _ σ v1 8) rfl rfl ⟨Nat.le_of_ble_eq_true rfl, Nat.le_of_ble_eq_true rfl⟩ ⟨rfl, rfl⟩ (Nat.le_of_ble_eq_true rfl) rfl ?_
  refine J_if_eq (pc' := 9) (tgt := 18) d_Rs_ranked_6 rfl (by decide) (fun hc1 => ?_) (fun hc1 => ?_)
  · have hf := brT hc1 hf
    refine J_iconst (pc' := 19) (v := (-1)) d_Rs_ranked_18 rfl ic_m1 ?_
    subst hf
    exact J_iret d_Rs_ranked_19
  · have hf := brF hc1 hf
    refine J_aload_n (pc' := 10) d_Rs_ranked_9 rfl 0 rfl ?_
    refine J_getR (pc' := 13) d_Rs_ranked_10 rfl sh_5 fl_Rs_22 rfl ?_
    refine J_iload_n (pc' := 14) d_Rs_ranked_13 rfl 1 rfl ?_
    refine J_ial (pc' := 15) d_Rs_ranked_14 rfl sh_8 (vin_b hc1) ?_
    refine J_goto (tgt := 19) d_Rs_ranked_15 (by decide) ?_
    subst hf
    exact J_iret d_Rs_ranked_19
theorem ct_Rs_ranked (V : Vx) (l : Launch) (σ : Sg) (v1 : Int32) : Ct V l y_Rs_ranked c_Rs_ranked 2 (some .int) (k2_rm 1 21) [rf V 5, .int v1] σ (some (.int (f_Rs_ranked σ v1))) σ := Ct.ofJ (by decide +kernel) (Nat.le_of_ble_eq_true rfl) fun X _ => j_Rs_ranked _ v1 rfl
def f_Tt_firstInWay_35 (k3 : Sg → Int32 → Int32 → Int32 → Option Int32) (σ : Sg) (v3 : Int32) (v4 : Int32) (v5 : Int32) : Option Int32 :=
  k3 σ v3 v4 (v5 + 1)
set_option maxHeartbeats 4000000 in
theorem j_Tt_firstInWay_35 {V : Vx} {X : Xx} {σ : Sg} {r : Int32} {k3 : Sg → Int32 → Int32 → Int32 → Option Int32} (hk3 : ∀ (v3 : Int32) (v4 : Int32) (v5 : Int32), k3 σ v3 v4 v5 = some r → J V X (k2_rm 4 99) c_Tt_firstInWay R_Tt 6 (some .int) (Qr V X (some (.int r)) σ) σ 3 [(0, rf V 41), (1, rf V 5), (2, rf V 18), (3, .int v3), (4, .int v4), (5, .int v5)] []) (v3 : Int32) (v4 : Int32) (v5 : Int32) (hf : f_Tt_firstInWay_35 k3 σ v3 v4 v5 = some r) : J V X (k2_rm 4 99) c_Tt_firstInWay R_Tt 6 (some .int) (Qr V X (some (.int r)) σ) σ 35 [(0, rf V 41), (1, rf V 5), (2, rf V 18), (3, .int v3), (4, .int v4), (5, .int v5)] [] := by
  unfold f_Tt_firstInWay_35 at hf
  refine J_iinc (pc' := 38) (j := 5) (v := 1) (lv' := [(5, .int (v5 + 1)), (0, rf V 41), (1, rf V 5), (2, rf V 18), (3, .int v3), (4, .int v4)]) d_Tt_firstInWay_35 rfl rfl ic_1 (by decide) rfl ?_
  refine J_goto (tgt := 3) d_Tt_firstInWay_38 (by decide) ?_
  refine J_pick [1, 2, 3, 4, 5, 0] rfl ?_
  exact hk3 _ _ _ hf
def f_Tt_firstInWay_3 : Nat → Sg → Int32 → Int32 → Int32 → Option Int32
  | 0, _, _, _, _ => none
  | n + 1, σ, v3, v4, v5 =>
    if (σ.1 18 2) ≤ v5 then
      some (-1)
    else
      if v5 = v3 then
        f_Tt_firstInWay_35 (f_Tt_firstInWay_3 n) σ v3 v4 v5
      else
        if (f_Tt_collide σ v3 v5 v4) = 0 then f_Tt_firstInWay_35 (f_Tt_firstInWay_3 n) σ v3 v4 v5 else some v5
theorem f_Tt_firstInWay_3_s (n : Nat) (σ : Sg) (v3 : Int32) (v4 : Int32) (v5 : Int32) : f_Tt_firstInWay_3 (n + 1) σ v3 v4 v5 =
    if (σ.1 18 2) ≤ v5 then
      some (-1)
    else
      if v5 = v3 then
        f_Tt_firstInWay_35 (f_Tt_firstInWay_3 n) σ v3 v4 v5
      else
        if (f_Tt_collide σ v3 v5 v4) = 0 then f_Tt_firstInWay_35 (f_Tt_firstInWay_3 n) σ v3 v4 v5 else some v5 := rfl
set_option maxHeartbeats 4000000 in
theorem j_Tt_firstInWay_3 {V : Vx} {X : Xx} {σ : Sg} {r : Int32}  : ∀ (n : Nat) (v3 : Int32) (v4 : Int32) (v5 : Int32), f_Tt_firstInWay_3 n σ v3 v4 v5 = some r → J V X (k2_rm 4 99) c_Tt_firstInWay R_Tt 6 (some .int) (Qr V X (some (.int r)) σ) σ 3 [(0, rf V 41), (1, rf V 5), (2, rf V 18), (3, .int v3), (4, .int v4), (5, .int v5)] [] := by
  intro n
  induction n with
  | zero => intro v3 v4 v5 hf; exact nn hf
  | succ n ih =>
    intro v3 v4 v5 hf
    rw [f_Tt_firstInWay_3_s] at hf
    refine J_iload (pc' := 5) d_Tt_firstInWay_3 rfl 5 rfl ?_
    refine J_aload_n (pc' := 6) d_Tt_firstInWay_5 rfl 2 rfl ?_
    refine J_getI (pc' := 9) d_Tt_firstInWay_6 rfl sh_18 fl_Tt_19 rfl ?_
    refine J_icmp_ge (pc' := 12) (tgt := 41) d_Tt_firstInWay_9 rfl (by decide) (fun hc1 => ?_) (fun hc1 => ?_)
    · have hf := brT hc1 hf
      refine J_iconst (pc' := 42) (v := (-1)) d_Tt_firstInWay_41 rfl ic_m1 ?_
      obtain rfl := Option.some.inj hf
      exact J_iret d_Tt_firstInWay_42
    · have hf := brF hc1 hf
      refine J_iload (pc' := 14) d_Tt_firstInWay_12 rfl 5 rfl ?_
      refine J_iload_n (pc' := 15) d_Tt_firstInWay_14 rfl 3 rfl ?_
      refine J_icmp_eq (pc' := 18) (tgt := 35) d_Tt_firstInWay_15 rfl (by decide) (fun hc2 => ?_) (fun hc2 => ?_)
      · have hf := brT hc2 hf
        exact j_Tt_firstInWay_35 ih _ _ _ hf
      · have hf := brF hc2 hf
        refine J_aload_n (pc' := 19) d_Tt_firstInWay_18 rfl 0 rfl ?_
        refine J_aload_n (pc' := 20) d_Tt_firstInWay_19 rfl 1 rfl ?_
        refine J_aload_n (pc' := 21) d_Tt_firstInWay_20 rfl 2 rfl ?_
        refine J_iload_n (pc' := 22) d_Tt_firstInWay_21 rfl 3 rfl ?_
        refine J_iload (pc' := 24) d_Tt_firstInWay_22 rfl 5 rfl ?_
        refine J_iload (pc' := 26) d_Tt_firstInWay_24 rfl 4 rfl ?_
        refine J_V (pc' := 29) (as := [rf V 5, rf V 18, .int v3, .int v5, .int v4]) (rest := []) (st' := [.int (f_Tt_collide σ v3 v5 v4)]) d_Tt_firstInWay_26 rfl sh_41 rfl mv_Tt_71 (ct_Tt_collide V _ σ v3 v5 v4) rfl rfl ⟨Nat.le_of_ble_eq_true rfl, Nat.le_of_ble_eq_true rfl⟩ ⟨rfl, rfl⟩ (Nat.le_of_ble_eq_true rfl) rfl ?_
        refine J_if_eq (pc' := 32) (tgt := 35) d_Tt_firstInWay_29 rfl (by decide) (fun hc3 => ?_) (fun hc3 => ?_)
        · have hf := brT hc3 hf
          exact j_Tt_firstInWay_35 ih _ _ _ hf
        · have hf := brF hc3 hf
          refine J_iload (pc' := 34) d_Tt_firstInWay_32 rfl 5 rfl ?_
          obtain rfl := Option.some.inj hf
          exact J_iret d_Tt_firstInWay_34
def f_Tt_firstInWay (σ : Sg) (v3 : Int32) (v4 : Int32) : Option Int32 :=
  f_Tt_firstInWay_3 FU σ v3 v4 0
set_option maxHeartbeats 4000000 in
theorem j_Tt_firstInWay {V : Vx} {X : Xx} {r : Int32} (σ : Sg) (v3 : Int32) (v4 : Int32) (hf : f_Tt_firstInWay σ v3 v4 = some r) : J V X (k2_rm 4 99) c_Tt_firstInWay R_Tt 6 (some .int) (Qr V X (some (.int r)) σ) σ 0 [(0, rf V 41), (1, rf V 5), (2, rf V 18), (3, .int v3), (4, .int v4)] [] := by
  unfold f_Tt_firstInWay at hf
  refine J_iconst (pc' := 1) (v := 0) d_Tt_firstInWay_0 rfl ic_0 ?_
  refine J_istore (pc' := 3) (lv' := [(5, .int 0), (0, rf V 41), (1, rf V 5), (2, rf V 18), (3, .int v3), (4, .int v4)]) d_Tt_firstInWay_1 rfl (by decide) rfl ?_
  refine J_pick [1, 2, 3, 4, 5, 0] rfl ?_
  exact j_Tt_firstInWay_3 FU _ _ _ hf
theorem ct_Tt_firstInWay (V : Vx) (l : Launch) (σ : Sg) (v3 : Int32) (v4 : Int32) {r : Int32} (hf : f_Tt_firstInWay σ v3 v4 = some r) : Ct V l y_Tt_firstInWay c_Tt_firstInWay 6 (some .int) (k2_rm 4 99) [rf V 41, rf V 5, rf V 18, .int v3, .int v4] σ (some (.int r)) σ := Ct.ofJ (by decide +kernel) (Nat.le_of_ble_eq_true rfl) fun X _ => j_Tt_firstInWay _ v3 v4 hf
def f_Tt_nextMinute (σ : Sg) (v3 : Int32) (v4 : Int32) : Int32 :=
  if (σ.1 (f_Ts_at v3) 0) = (σ.1 (f_Ts_at v4) 0) then (f_Tt_startOf σ v4) + (f_Ro_minutes σ (f_Rs_at (σ.1 (f_Ts_at v4) 0)) (σ.1 (f_Ts_at v4) 1)) else (f_Tt_startOf σ v3) + 1
set_option maxHeartbeats 4000000 in
theorem j_Tt_nextMinute {V : Vx} {X : Xx} {r : Int32} (σ : Sg) (v3 : Int32) (v4 : Int32) (hf : f_Tt_nextMinute σ v3 v4 = r) : J V X (k2_rm 2 43) c_Tt_nextMinute R_Tt 6 (some .int) (Qr V X (some (.int r)) σ) σ 0 [(0, rf V 41), (1, rf V 5), (2, rf V 18), (3, .int v3), (4, .int v4)] [] := by
  unfold f_Tt_nextMinute at hf
  refine J_aload_n (pc' := 1) d_Tt_nextMinute_0 rfl 2 rfl ?_
  refine J_iload (pc' := 3) d_Tt_nextMinute_1 rfl 4 rfl ?_
  refine J_V (pc' := 6) (as := [.int v4]) (rest := []) (st' := [rf V (f_Ts_at v4)]) d_Tt_nextMinute_3 rfl sh_18 rfl mv_Tt_25 (ct_Ts_at V _ σ v4) rfl rfl ⟨Nat.le_of_ble_eq_true rfl, Nat.le_of_ble_eq_true rfl⟩ ⟨rfl, rfl⟩ (Nat.le_of_ble_eq_true rfl) rfl ?_
  refine J_astore (pc' := 8) (lv' := [(5, rf V (f_Ts_at v4)), (0, rf V 41), (1, rf V 5), (2, rf V 18), (3, .int v3), (4, .int v4)]) d_Tt_nextMinute_6 rfl (by decide) rfl ?_
  refine J_aload_n (pc' := 9) d_Tt_nextMinute_8 rfl 3 rfl ?_
  refine J_iload_n (pc' := 10) d_Tt_nextMinute_9 rfl 4 rfl ?_
  refine J_V (pc' := 13) (as := [.int v3]) (rest := []) (st' := [rf V (f_Ts_at v3)]) d_Tt_nextMinute_10 rfl sh_18 rfl mv_Tt_25 (ct_Ts_at V _ σ v3) rfl rfl ⟨Nat.le_of_ble_eq_true rfl, Nat.le_of_ble_eq_true rfl⟩ ⟨rfl, rfl⟩ (Nat.le_of_ble_eq_true rfl) rfl ?_
  refine J_getI (pc' := 16) d_Tt_nextMinute_13 rfl (sh_Tr (is_Ts_at v3)) fl_Tt_29 rfl ?_
  refine J_aload (pc' := 18) d_Tt_nextMinute_16 rfl 0 rfl ?_
  refine J_getI (pc' := 21) d_Tt_nextMinute_18 rfl (sh_Tr (is_Ts_at v4)) fl_Tt_29 rfl ?_
  refine J_icmp_ne (pc' := 24) (tgt := 49) d_Tt_nextMinute_21 rfl (by decide) (fun hc1 => ?_) (fun hc1 => ?_)
  · have hf := brF hc1 hf
    refine J_aload_n (pc' := 50) d_Tt_nextMinute_49 rfl 1 rfl ?_
    refine J_iload_n (pc' := 51) d_Tt_nextMinute_50 rfl 4 rfl ?_
    refine J_V (pc' := 54) (as := [.int v3]) (rest := []) (st' := [.int (f_Tt_startOf σ v3)]) d_Tt_nextMinute_51 rfl sh_41 rfl mv_Tt_75 (ct_Tt_startOf V _ σ v3) rfl rfl ⟨Nat.le_of_ble_eq_true rfl, Nat.le_of_ble_eq_true rfl⟩ ⟨rfl, rfl⟩ (Nat.le_of_ble_eq_true rfl) rfl ?_
    refine J_iconst (pc' := 55) (v := 1) d_Tt_nextMinute_54 rfl ic_1 ?_
    refine J_iadd (pc' := 56) d_Tt_nextMinute_55 rfl ?_
    subst hf
    exact J_iret d_Tt_nextMinute_56
  · have hf := brT hc1 hf
    refine J_aload_n (pc' := 25) d_Tt_nextMinute_24 rfl 1 rfl ?_
    refine J_iload (pc' := 27) d_Tt_nextMinute_25 rfl 5 rfl ?_
    refine J_V (pc' := 30) (as := [.int v4]) (rest := []) (st' := [.int (f_Tt_startOf σ v4)]) d_Tt_nextMinute_27 rfl sh_41 rfl mv_Tt_75 (ct_Tt_startOf V _ σ v4) rfl rfl ⟨Nat.le_of_ble_eq_true rfl, Nat.le_of_ble_eq_true rfl⟩ ⟨rfl, rfl⟩ (Nat.le_of_ble_eq_true rfl) rfl ?_
    refine J_aload_n (pc' := 31) d_Tt_nextMinute_30 rfl 2 rfl ?_
    refine J_aload (pc' := 33) d_Tt_nextMinute_31 rfl 0 rfl ?_
    refine J_getI (pc' := 36) d_Tt_nextMinute_33 rfl (sh_Tr (is_Ts_at v4)) fl_Tt_29 rfl ?_
    refine J_V (pc' := 39) (as := [.int (σ.1 (f_Ts_at v4) 0)]) (rest := [.int (f_Tt_startOf σ v4)]) (st' := [rf V (f_Rs_at (σ.1 (f_Ts_at v4) 0)), .int (f_Tt_startOf σ v4)]) d_Tt_nextMinute_36 rfl sh_5 rfl mv_Tt_78 (ct_Rs_at V _ σ (σ.1 (f_Ts_at v4) 0)) rfl rfl ⟨Nat.le_of_ble_eq_true rfl, Nat.le_of_ble_eq_true rfl⟩ ⟨rfl, rfl⟩ (Nat.le_of_ble_eq_true rfl) rfl ?_
    refine J_aload (pc' := 41) d_Tt_nextMinute_39 rfl 0 rfl ?_
    refine J_getI (pc' := 44) d_Tt_nextMinute_41 rfl (sh_Tr (is_Ts_at v4)) fl_Tt_81 rfl ?_
    refine J_V (pc' := 47) (as := [.int (σ.1 (f_Ts_at v4) 1)]) (rest := [.int (f_Tt_startOf σ v4)]) (st' := [.int (f_Ro_minutes σ (f_Rs_at (σ.1 (f_Ts_at v4) 0)) (σ.1 (f_Ts_at v4) 1)), .int (f_Tt_startOf σ v4)]) d_Tt_nextMinute_44 rfl (sh_Ro (is_Rs_at (σ.1 (f_Ts_at v4) 0))) rfl mv_Tt_84 (ct_Ro_minutes V _ σ (f_Rs_at (σ.1 (f_Ts_at v4) 0)) (σ.1 (f_Ts_at v4) 1) (is_Rs_at (σ.1 (f_Ts_at v4) 0))) rfl rfl ⟨Nat.le_of_ble_eq_true rfl, Nat.le_of_ble_eq_true rfl⟩ ⟨rfl, rfl⟩ (Nat.le_of_ble_eq_true rfl) rfl ?_
    refine J_iadd (pc' := 48) d_Tt_nextMinute_47 rfl ?_
    subst hf
    exact J_iret d_Tt_nextMinute_48
theorem ct_Tt_nextMinute (V : Vx) (l : Launch) (σ : Sg) (v3 : Int32) (v4 : Int32) : Ct V l y_Tt_nextMinute c_Tt_nextMinute 6 (some .int) (k2_rm 2 43) [rf V 41, rf V 5, rf V 18, .int v3, .int v4] σ (some (.int (f_Tt_nextMinute σ v3 v4))) σ := Ct.ofJ (by decide +kernel) (Nat.le_of_ble_eq_true rfl) fun X _ => j_Tt_nextMinute _ v3 v4 rfl
def f_Tt_delay_16 : Nat → Sg → Int32 → Int32 → Int32 → Option Sg
  | 0, _, _, _, _ => none
  | n + 1, σ, v3, v4, v5 =>
    if 100000 ≤ v5 then
      some σ
    else
      (f_Tt_firstInWay σ v3 v4).bind fun r5 =>
        if r5 = (-1) then
          some σ
        else
          (f_Tt_begin σ v3 (f_Tt_nextMinute σ v3 r5)).bind fun σ8 =>
            f_Tt_delay_16 n σ8 v3 v4 (v5 + 1)
theorem f_Tt_delay_16_s (n : Nat) (σ : Sg) (v3 : Int32) (v4 : Int32) (v5 : Int32) : f_Tt_delay_16 (n + 1) σ v3 v4 v5 =
    if 100000 ≤ v5 then
      some σ
    else
      (f_Tt_firstInWay σ v3 v4).bind fun r5 =>
        if r5 = (-1) then
          some σ
        else
          (f_Tt_begin σ v3 (f_Tt_nextMinute σ v3 r5)).bind fun σ8 =>
            f_Tt_delay_16 n σ8 v3 v4 (v5 + 1) := rfl
set_option maxHeartbeats 4000000 in
theorem j_Tt_delay_16 {V : Vx} {X : Xx} {σ' : Sg}  : ∀ (n : Nat) (σ : Sg) (v3 : Int32) (v4 : Int32) (v5 : Int32), f_Tt_delay_16 n σ v3 v4 v5 = some σ' → J V X (k2_rm 5 124) c_Tt_delay R_Tt 7 none (Qr V X none σ') σ 16 [(0, rf V 41), (1, rf V 5), (2, rf V 18), (3, .int v3), (4, .int v4), (5, .int v5)] [] := by
  intro n
  induction n with
  | zero => intro σ v3 v4 v5 hf; exact nn hf
  | succ n ih =>
    intro σ v3 v4 v5 hf
    rw [f_Tt_delay_16_s] at hf
    refine J_iload (pc' := 18) d_Tt_delay_16 rfl 5 rfl ?_
    refine J_ldc (pc' := 20) (v := 100000) d_Tt_delay_18 rfl cw_Tt_63 ?_
    refine J_icmp_ge (pc' := 23) (tgt := 61) d_Tt_delay_20 rfl (by decide) (fun hc3 => ?_) (fun hc3 => ?_)
    · have hf := brT hc3 hf
      obtain rfl := Option.some.inj hf
      exact J_vret d_Tt_delay_61
    · have hf := brF hc3 hf
      refine J_aload_n (pc' := 24) d_Tt_delay_23 rfl 0 rfl ?_
      refine J_aload_n (pc' := 25) d_Tt_delay_24 rfl 1 rfl ?_
      refine J_aload_n (pc' := 26) d_Tt_delay_25 rfl 2 rfl ?_
      refine J_iload_n (pc' := 27) d_Tt_delay_26 rfl 3 rfl ?_
      refine J_iload (pc' := 29) d_Tt_delay_27 rfl 4 rfl ?_
      obtain ⟨r5, hq4, hf⟩ := bpE hf
      refine J_V (pc' := 32) (as := [rf V 5, rf V 18, .int v3, .int v4]) (rest := []) (st' := [.int r5]) d_Tt_delay_29 rfl sh_41 rfl mv_Tt_64 (ct_Tt_firstInWay V _ σ v3 v4 hq4) rfl rfl ⟨Nat.le_of_ble_eq_true rfl, Nat.le_of_ble_eq_true rfl⟩ ⟨rfl, rfl⟩ (Nat.le_of_ble_eq_true rfl) rfl ?_
      refine J_istore (pc' := 34) (lv' := [(6, .int r5), (0, rf V 41), (1, rf V 5), (2, rf V 18), (3, .int v3), (4, .int v4), (5, .int v5)]) d_Tt_delay_32 rfl (by decide) rfl ?_
      refine J_iload (pc' := 36) d_Tt_delay_34 rfl 0 rfl ?_
      refine J_iconst (pc' := 37) (v := (-1)) d_Tt_delay_36 rfl ic_m1 ?_
      refine J_icmp_ne (pc' := 40) (tgt := 41) d_Tt_delay_37 rfl (by decide) (fun hc6 => ?_) (fun hc6 => ?_)
      · have hf := brF hc6 hf
        refine J_aload_n (pc' := 42) d_Tt_delay_41 rfl 1 rfl ?_
        refine J_iload_n (pc' := 43) d_Tt_delay_42 rfl 4 rfl ?_
        refine J_aload_n (pc' := 44) d_Tt_delay_43 rfl 1 rfl ?_
        refine J_aload_n (pc' := 45) d_Tt_delay_44 rfl 2 rfl ?_
        refine J_aload_n (pc' := 46) d_Tt_delay_45 rfl 3 rfl ?_
        refine J_iload_n (pc' := 47) d_Tt_delay_46 rfl 4 rfl ?_
        refine J_iload (pc' := 49) d_Tt_delay_47 rfl 0 rfl ?_
        refine J_V (pc' := 52) (as := [rf V 5, rf V 18, .int v3, .int r5]) (rest := [.int v3, rf V 41]) (st' := [.int (f_Tt_nextMinute σ v3 r5), .int v3, rf V 41]) d_Tt_delay_49 rfl sh_41 rfl mv_Tt_68 (ct_Tt_nextMinute V _ σ v3 r5) rfl rfl ⟨Nat.le_of_ble_eq_true rfl, Nat.le_of_ble_eq_true rfl⟩ ⟨rfl, rfl⟩ (Nat.le_of_ble_eq_true rfl) rfl ?_
        obtain ⟨σ8, hq7, hf⟩ := bpE hf
        refine J_V (pc' := 55) (as := [.int v3, .int (f_Tt_nextMinute σ v3 r5)]) (rest := []) (st' := []) d_Tt_delay_52 rfl sh_41 rfl mv_Tt_43 (ct_Tt_begin V _ σ v3 (f_Tt_nextMinute σ v3 r5) hq7) rfl rfl ⟨Nat.le_of_ble_eq_true rfl, Nat.le_of_ble_eq_true rfl⟩ ⟨rfl, rfl⟩ (Nat.le_of_ble_eq_true rfl) rfl ?_
        refine J_iinc (pc' := 58) (j := 6) (v := 1) (lv' := [(5, .int (v5 + 1)), (6, .int r5), (0, rf V 41), (1, rf V 5), (2, rf V 18), (3, .int v3), (4, .int v4)]) d_Tt_delay_55 rfl rfl ic_1 (by decide) rfl ?_
        refine J_goto (tgt := 16) d_Tt_delay_58 (by decide) ?_
        refine J_pick [2, 3, 4, 5, 6, 0] rfl ?_
        exact ih _ _ _ _ hf
      · have hf := brT hc6 hf
        obtain rfl := Option.some.inj hf
        exact J_vret d_Tt_delay_40
def f_Tt_delay (σ : Sg) (v3 : Int32) (v4 : Int32) : Option Sg :=
  (f_Tt_begin σ v3 (σ.1 (f_Ts_at v3) 2)).bind fun σ2 =>
    f_Tt_delay_16 FU σ2 v3 v4 0
set_option maxHeartbeats 4000000 in
theorem j_Tt_delay {V : Vx} {X : Xx} {σ' : Sg} (σ : Sg) (v3 : Int32) (v4 : Int32) (hf : f_Tt_delay σ v3 v4 = some σ') : J V X (k2_rm 5 124) c_Tt_delay R_Tt 7 none (Qr V X none σ') σ 0 [(0, rf V 41), (1, rf V 5), (2, rf V 18), (3, .int v3), (4, .int v4)] [] := by
  unfold f_Tt_delay at hf
  refine J_aload_n (pc' := 1) d_Tt_delay_0 rfl 0 rfl ?_
  refine J_iload_n (pc' := 2) d_Tt_delay_1 rfl 3 rfl ?_
  refine J_aload_n (pc' := 3) d_Tt_delay_2 rfl 2 rfl ?_
  refine J_iload_n (pc' := 4) d_Tt_delay_3 rfl 3 rfl ?_
  refine J_V (pc' := 7) (as := [.int v3]) (rest := [.int v3, rf V 41]) (st' := [rf V (f_Ts_at v3), .int v3, rf V 41]) d_Tt_delay_4 rfl sh_18 rfl mv_Tt_25 (ct_Ts_at V _ σ v3) rfl rfl ⟨Nat.le_of_ble_eq_true rfl, Nat.le_of_ble_eq_true rfl⟩ ⟨rfl, rfl⟩ (Nat.le_of_ble_eq_true rfl) rfl ?_
  refine J_getI (pc' := 10) d_Tt_delay_7 rfl (sh_Tr (is_Ts_at v3)) fl_Tt_40 rfl ?_
  obtain ⟨σ2, hq1, hf⟩ := bpE hf
  refine J_V (pc' := 13) (as := [.int v3, .int (σ.1 (f_Ts_at v3) 2)]) (rest := []) (st' := []) d_Tt_delay_10 rfl sh_41 rfl mv_Tt_43 (ct_Tt_begin V _ σ v3 (σ.1 (f_Ts_at v3) 2) hq1) rfl rfl ⟨Nat.le_of_ble_eq_true rfl, Nat.le_of_ble_eq_true rfl⟩ ⟨rfl, rfl⟩ (Nat.le_of_ble_eq_true rfl) rfl ?_
  refine J_iconst (pc' := 14) (v := 0) d_Tt_delay_13 rfl ic_0 ?_
  refine J_istore (pc' := 16) (lv' := [(5, .int 0), (0, rf V 41), (1, rf V 5), (2, rf V 18), (3, .int v3), (4, .int v4)]) d_Tt_delay_14 rfl (by decide) rfl ?_
  refine J_pick [1, 2, 3, 4, 5, 0] rfl ?_
  exact j_Tt_delay_16 FU _ _ _ _ hf
theorem ct_Tt_delay (V : Vx) (l : Launch) (σ : Sg) (v3 : Int32) (v4 : Int32) {σ' : Sg} (hf : f_Tt_delay σ v3 v4 = some σ') : Ct V l y_Tt_delay c_Tt_delay 7 none (k2_rm 5 124) [rf V 41, rf V 5, rf V 18, .int v3, .int v4] σ none σ' := Ct.ofJ (by decide +kernel) (Nat.le_of_ble_eq_true rfl) fun X _ => j_Tt_delay _ v3 v4 hf
def f_Tt_beginWithoutClash_80 (k28 : Sg → Int32 → Int32 → Option Sg) (k48 : Sg → Int32 → Int32 → Int32 → Int32 → Option Sg) (σ : Sg) (v3 : Int32) (v4 : Int32) (v5 : Int32) (v6 : Int32) : Option Sg :=
  k48 σ v3 v4 v5 (v6 + 1)
set_option maxHeartbeats 4000000 in
theorem j_Tt_beginWithoutClash_80 {V : Vx} {X : Xx} {σ' : Sg} {k28 : Sg → Int32 → Int32 → Option Sg} {k48 : Sg → Int32 → Int32 → Int32 → Int32 → Option Sg} (hk28 : ∀ (σ : Sg) (v3 : Int32) (v4 : Int32), k28 σ v3 v4 = some σ' → J V X (k2_rm 6 150) c_Tt_beginWithoutClash R_Tt 7 none (Qr V X none σ') σ 28 [(0, rf V 41), (1, rf V 5), (2, rf V 18), (3, .int v3), (4, .int v4)] []) (hk48 : ∀ (σ : Sg) (v3 : Int32) (v4 : Int32) (v5 : Int32) (v6 : Int32), k48 σ v3 v4 v5 v6 = some σ' → J V X (k2_rm 6 150) c_Tt_beginWithoutClash R_Tt 7 none (Qr V X none σ') σ 48 [(0, rf V 41), (1, rf V 5), (2, rf V 18), (3, .int v3), (4, .int v4), (5, .int v5), (6, .int v6)] []) (σ : Sg) (v3 : Int32) (v4 : Int32) (v5 : Int32) (v6 : Int32) (hf : f_Tt_beginWithoutClash_80 k28 k48 σ v3 v4 v5 v6 = some σ') : J V X (k2_rm 6 150) c_Tt_beginWithoutClash R_Tt 7 none (Qr V X none σ') σ 80 [(0, rf V 41), (1, rf V 5), (2, rf V 18), (3, .int v3), (4, .int v4), (5, .int v5), (6, .int v6)] [] := by
  unfold f_Tt_beginWithoutClash_80 at hf
  refine J_iinc (pc' := 83) (j := 6) (v := 1) (lv' := [(6, .int (v6 + 1)), (0, rf V 41), (1, rf V 5), (2, rf V 18), (3, .int v3), (4, .int v4), (5, .int v5)]) d_Tt_beginWithoutClash_80 rfl rfl ic_1 (by decide) rfl ?_
  refine J_goto (tgt := 48) d_Tt_beginWithoutClash_83 (by decide) ?_
  refine J_pick [1, 2, 3, 4, 5, 6, 0] rfl ?_
  exact hk48 _ _ _ _ _ hf
def f_Tt_beginWithoutClash_48 (k28 : Sg → Int32 → Int32 → Option Sg) : Nat → Sg → Int32 → Int32 → Int32 → Int32 → Option Sg
  | 0, _, _, _, _, _ => none
  | n + 1, σ, v3, v4, v5, v6 =>
    if (σ.1 18 2) ≤ v6 then
      k28 σ v3 (v4 + 1)
    else
      if (σ.1 (f_Ts_at v6) 0) = v5 then
        (f_Tt_delay σ v6 v3).bind fun σ6 =>
          f_Tt_beginWithoutClash_80 k28 (f_Tt_beginWithoutClash_48 k28 n) σ6 v3 v4 v5 v6
      else
        f_Tt_beginWithoutClash_80 k28 (f_Tt_beginWithoutClash_48 k28 n) σ v3 v4 v5 v6
theorem f_Tt_beginWithoutClash_48_s (k28 : Sg → Int32 → Int32 → Option Sg) (n : Nat) (σ : Sg) (v3 : Int32) (v4 : Int32) (v5 : Int32) (v6 : Int32) : f_Tt_beginWithoutClash_48 k28 (n + 1) σ v3 v4 v5 v6 =
    if (σ.1 18 2) ≤ v6 then
      k28 σ v3 (v4 + 1)
    else
      if (σ.1 (f_Ts_at v6) 0) = v5 then
        (f_Tt_delay σ v6 v3).bind fun σ6 =>
          f_Tt_beginWithoutClash_80 k28 (f_Tt_beginWithoutClash_48 k28 n) σ6 v3 v4 v5 v6
      else
        f_Tt_beginWithoutClash_80 k28 (f_Tt_beginWithoutClash_48 k28 n) σ v3 v4 v5 v6 := rfl
set_option maxHeartbeats 4000000 in
theorem j_Tt_beginWithoutClash_48 {V : Vx} {X : Xx} {σ' : Sg} {k28 : Sg → Int32 → Int32 → Option Sg} (hk28 : ∀ (σ : Sg) (v3 : Int32) (v4 : Int32), k28 σ v3 v4 = some σ' → J V X (k2_rm 6 150) c_Tt_beginWithoutClash R_Tt 7 none (Qr V X none σ') σ 28 [(0, rf V 41), (1, rf V 5), (2, rf V 18), (3, .int v3), (4, .int v4)] []) : ∀ (n : Nat) (σ : Sg) (v3 : Int32) (v4 : Int32) (v5 : Int32) (v6 : Int32), f_Tt_beginWithoutClash_48 k28 n σ v3 v4 v5 v6 = some σ' → J V X (k2_rm 6 150) c_Tt_beginWithoutClash R_Tt 7 none (Qr V X none σ') σ 48 [(0, rf V 41), (1, rf V 5), (2, rf V 18), (3, .int v3), (4, .int v4), (5, .int v5), (6, .int v6)] [] := by
  intro n
  induction n with
  | zero => intro σ v3 v4 v5 v6 hf; exact nn hf
  | succ n ih =>
    intro σ v3 v4 v5 v6 hf
    rw [f_Tt_beginWithoutClash_48_s] at hf
    refine J_iload (pc' := 50) d_Tt_beginWithoutClash_48 rfl 6 rfl ?_
    refine J_aload_n (pc' := 51) d_Tt_beginWithoutClash_50 rfl 2 rfl ?_
    refine J_getI (pc' := 54) d_Tt_beginWithoutClash_51 rfl sh_18 fl_Tt_19 rfl ?_
    refine J_icmp_ge (pc' := 57) (tgt := 86) d_Tt_beginWithoutClash_54 rfl (by decide) (fun hc3 => ?_) (fun hc3 => ?_)
    · have hf := brT hc3 hf
      refine J_iinc (pc' := 89) (j := 4) (v := 1) (lv' := [(4, .int (v4 + 1)), (0, rf V 41), (1, rf V 5), (2, rf V 18), (3, .int v3), (5, .int v5), (6, .int v6)]) d_Tt_beginWithoutClash_86 rfl rfl ic_1 (by decide) rfl ?_
      refine J_goto (tgt := 28) d_Tt_beginWithoutClash_89 (by decide) ?_
      refine J_pick [1, 2, 3, 4, 0] rfl ?_
      exact hk28 _ _ _ hf
    · have hf := brF hc3 hf
      refine J_aload_n (pc' := 58) d_Tt_beginWithoutClash_57 rfl 2 rfl ?_
      refine J_iload (pc' := 60) d_Tt_beginWithoutClash_58 rfl 6 rfl ?_
      refine J_V (pc' := 63) (as := [.int v6]) (rest := []) (st' := [rf V (f_Ts_at v6)]) d_Tt_beginWithoutClash_60 rfl sh_18 rfl mv_Tt_25 (ct_Ts_at V _ σ v6) rfl rfl ⟨Nat.le_of_ble_eq_true rfl, Nat.le_of_ble_eq_true rfl⟩ ⟨rfl, rfl⟩ (Nat.le_of_ble_eq_true rfl) rfl ?_
      refine J_getI (pc' := 66) d_Tt_beginWithoutClash_63 rfl (sh_Tr (is_Ts_at v6)) fl_Tt_29 rfl ?_
      refine J_iload (pc' := 68) d_Tt_beginWithoutClash_66 rfl 5 rfl ?_
      refine J_icmp_ne (pc' := 71) (tgt := 80) d_Tt_beginWithoutClash_68 rfl (by decide) (fun hc4 => ?_) (fun hc4 => ?_)
      · have hf := brF hc4 hf
        exact j_Tt_beginWithoutClash_80 hk28 ih _ _ _ _ _ hf
      · have hf := brT hc4 hf
        refine J_aload_n (pc' := 72) d_Tt_beginWithoutClash_71 rfl 0 rfl ?_
        refine J_aload_n (pc' := 73) d_Tt_beginWithoutClash_72 rfl 1 rfl ?_
        refine J_aload_n (pc' := 74) d_Tt_beginWithoutClash_73 rfl 2 rfl ?_
        refine J_iload (pc' := 76) d_Tt_beginWithoutClash_74 rfl 6 rfl ?_
        refine J_iload_n (pc' := 77) d_Tt_beginWithoutClash_76 rfl 3 rfl ?_
        obtain ⟨σ6, hq5, hf⟩ := bpE hf
        refine J_V (pc' := 80) (as := [rf V 5, rf V 18, .int v6, .int v3]) (rest := []) (st' := []) d_Tt_beginWithoutClash_77 rfl sh_41 rfl mv_Tt_59 (ct_Tt_delay V _ σ v6 v3 hq5) rfl rfl ⟨Nat.le_of_ble_eq_true rfl, Nat.le_of_ble_eq_true rfl⟩ ⟨rfl, rfl⟩ (Nat.le_of_ble_eq_true rfl) rfl ?_
        exact j_Tt_beginWithoutClash_80 hk28 ih _ _ _ _ _ hf
def f_Tt_beginWithoutClash_28 : Nat → Sg → Int32 → Int32 → Option Sg
  | 0, _, _, _ => none
  | n + 1, σ, v3, v4 =>
    if (σ.1 5 3) ≤ v4 then some σ else f_Tt_beginWithoutClash_48 (f_Tt_beginWithoutClash_28 n) FU σ v3 v4 (f_Rs_ranked σ v4) 0
theorem f_Tt_beginWithoutClash_28_s (n : Nat) (σ : Sg) (v3 : Int32) (v4 : Int32) : f_Tt_beginWithoutClash_28 (n + 1) σ v3 v4 =
    if (σ.1 5 3) ≤ v4 then some σ else f_Tt_beginWithoutClash_48 (f_Tt_beginWithoutClash_28 n) FU σ v3 v4 (f_Rs_ranked σ v4) 0 := rfl
set_option maxHeartbeats 4000000 in
theorem j_Tt_beginWithoutClash_28 {V : Vx} {X : Xx} {σ' : Sg}  : ∀ (n : Nat) (σ : Sg) (v3 : Int32) (v4 : Int32), f_Tt_beginWithoutClash_28 n σ v3 v4 = some σ' → J V X (k2_rm 6 150) c_Tt_beginWithoutClash R_Tt 7 none (Qr V X none σ') σ 28 [(0, rf V 41), (1, rf V 5), (2, rf V 18), (3, .int v3), (4, .int v4)] [] := by
  intro n
  induction n with
  | zero => intro σ v3 v4 hf; exact nn hf
  | succ n ih =>
    intro σ v3 v4 hf
    rw [f_Tt_beginWithoutClash_28_s] at hf
    refine J_iload (pc' := 30) d_Tt_beginWithoutClash_28 rfl 4 rfl ?_
    refine J_aload_n (pc' := 31) d_Tt_beginWithoutClash_30 rfl 1 rfl ?_
    refine J_getI (pc' := 34) d_Tt_beginWithoutClash_31 rfl sh_5 fl_Tt_54 rfl ?_
    refine J_icmp_ge (pc' := 37) (tgt := 92) d_Tt_beginWithoutClash_34 rfl (by decide) (fun hc2 => ?_) (fun hc2 => ?_)
    · have hf := brT hc2 hf
      obtain rfl := Option.some.inj hf
      exact J_vret d_Tt_beginWithoutClash_92
    · have hf := brF hc2 hf
      refine J_aload_n (pc' := 38) d_Tt_beginWithoutClash_37 rfl 1 rfl ?_
      refine J_iload (pc' := 40) d_Tt_beginWithoutClash_38 rfl 4 rfl ?_
      refine J_V (pc' := 43) (as := [.int v4]) (rest := []) (st' := [.int (f_Rs_ranked σ v4)]) d_Tt_beginWithoutClash_40 rfl sh_5 rfl mv_Tt_55 (ct_Rs_ranked V _ σ v4) rfl rfl ⟨Nat.le_of_ble_eq_true rfl, Nat.le_of_ble_eq_true rfl⟩ ⟨rfl, rfl⟩ (Nat.le_of_ble_eq_true rfl) rfl ?_
      refine J_istore (pc' := 45) (lv' := [(5, .int (f_Rs_ranked σ v4)), (0, rf V 41), (1, rf V 5), (2, rf V 18), (3, .int v3), (4, .int v4)]) d_Tt_beginWithoutClash_43 rfl (by decide) rfl ?_
      refine J_iconst (pc' := 46) (v := 0) d_Tt_beginWithoutClash_45 rfl ic_0 ?_
      refine J_istore (pc' := 48) (lv' := [(6, .int 0), (5, .int (f_Rs_ranked σ v4)), (0, rf V 41), (1, rf V 5), (2, rf V 18), (3, .int v3), (4, .int v4)]) d_Tt_beginWithoutClash_46 rfl (by decide) rfl ?_
      refine J_pick [2, 3, 4, 5, 6, 1, 0] rfl ?_
      exact j_Tt_beginWithoutClash_48 ih FU _ _ _ _ _ hf
def f_Tt_beginWithoutClash_3 : Nat → Sg → Int32 → Int32 → Option Sg
  | 0, _, _, _ => none
  | n + 1, σ, v3, v4 =>
    if (σ.1 18 2) ≤ v4 then
      f_Tt_beginWithoutClash_28 FU σ v3 0
    else
      (f_Tt_begin σ v4 (-1)).bind fun σ8 =>
        f_Tt_beginWithoutClash_3 n σ8 v3 (v4 + 1)
theorem f_Tt_beginWithoutClash_3_s (n : Nat) (σ : Sg) (v3 : Int32) (v4 : Int32) : f_Tt_beginWithoutClash_3 (n + 1) σ v3 v4 =
    if (σ.1 18 2) ≤ v4 then
      f_Tt_beginWithoutClash_28 FU σ v3 0
    else
      (f_Tt_begin σ v4 (-1)).bind fun σ8 =>
        f_Tt_beginWithoutClash_3 n σ8 v3 (v4 + 1) := rfl
set_option maxHeartbeats 4000000 in
theorem j_Tt_beginWithoutClash_3 {V : Vx} {X : Xx} {σ' : Sg}  : ∀ (n : Nat) (σ : Sg) (v3 : Int32) (v4 : Int32), f_Tt_beginWithoutClash_3 n σ v3 v4 = some σ' → J V X (k2_rm 6 150) c_Tt_beginWithoutClash R_Tt 7 none (Qr V X none σ') σ 3 [(0, rf V 41), (1, rf V 5), (2, rf V 18), (3, .int v3), (4, .int v4)] [] := by
  intro n
  induction n with
  | zero => intro σ v3 v4 hf; exact nn hf
  | succ n ih =>
    intro σ v3 v4 hf
    rw [f_Tt_beginWithoutClash_3_s] at hf
    refine J_iload (pc' := 5) d_Tt_beginWithoutClash_3 rfl 4 rfl ?_
    refine J_aload_n (pc' := 6) d_Tt_beginWithoutClash_5 rfl 2 rfl ?_
    refine J_getI (pc' := 9) d_Tt_beginWithoutClash_6 rfl sh_18 fl_Tt_19 rfl ?_
    refine J_icmp_ge (pc' := 12) (tgt := 25) d_Tt_beginWithoutClash_9 rfl (by decide) (fun hc1 => ?_) (fun hc1 => ?_)
    · have hf := brT hc1 hf
      refine J_iconst (pc' := 26) (v := 0) d_Tt_beginWithoutClash_25 rfl ic_0 ?_
      refine J_istore (pc' := 28) (lv' := [(4, .int 0), (0, rf V 41), (1, rf V 5), (2, rf V 18), (3, .int v3)]) d_Tt_beginWithoutClash_26 rfl (by decide) rfl ?_
      refine J_pick [1, 2, 3, 4, 0] rfl ?_
      exact j_Tt_beginWithoutClash_28 FU _ _ _ hf
    · have hf := brF hc1 hf
      refine J_aload_n (pc' := 13) d_Tt_beginWithoutClash_12 rfl 0 rfl ?_
      refine J_iload (pc' := 15) d_Tt_beginWithoutClash_13 rfl 4 rfl ?_
      refine J_iconst (pc' := 16) (v := (-1)) d_Tt_beginWithoutClash_15 rfl ic_m1 ?_
      obtain ⟨σ8, hq7, hf⟩ := bpE hf
      refine J_V (pc' := 19) (as := [.int v4, .int (-1)]) (rest := []) (st' := []) d_Tt_beginWithoutClash_16 rfl sh_41 rfl mv_Tt_43 (ct_Tt_begin V _ σ v4 (-1) hq7) rfl rfl ⟨Nat.le_of_ble_eq_true rfl, Nat.le_of_ble_eq_true rfl⟩ ⟨rfl, rfl⟩ (Nat.le_of_ble_eq_true rfl) rfl ?_
      refine J_iinc (pc' := 22) (j := 4) (v := 1) (lv' := [(4, .int (v4 + 1)), (0, rf V 41), (1, rf V 5), (2, rf V 18), (3, .int v3)]) d_Tt_beginWithoutClash_19 rfl rfl ic_1 (by decide) rfl ?_
      refine J_goto (tgt := 3) d_Tt_beginWithoutClash_22 (by decide) ?_
      refine J_pick [1, 2, 3, 4, 0] rfl ?_
      exact ih _ _ _ hf
def f_Tt_beginWithoutClash (σ : Sg) (v3 : Int32) : Option Sg :=
  f_Tt_beginWithoutClash_3 FU σ v3 0
set_option maxHeartbeats 4000000 in
theorem j_Tt_beginWithoutClash {V : Vx} {X : Xx} {σ' : Sg} (σ : Sg) (v3 : Int32) (hf : f_Tt_beginWithoutClash σ v3 = some σ') : J V X (k2_rm 6 150) c_Tt_beginWithoutClash R_Tt 7 none (Qr V X none σ') σ 0 [(0, rf V 41), (1, rf V 5), (2, rf V 18), (3, .int v3)] [] := by
  unfold f_Tt_beginWithoutClash at hf
  refine J_iconst (pc' := 1) (v := 0) d_Tt_beginWithoutClash_0 rfl ic_0 ?_
  refine J_istore (pc' := 3) (lv' := [(4, .int 0), (0, rf V 41), (1, rf V 5), (2, rf V 18), (3, .int v3)]) d_Tt_beginWithoutClash_1 rfl (by decide) rfl ?_
  refine J_pick [1, 2, 3, 4, 0] rfl ?_
  exact j_Tt_beginWithoutClash_3 FU _ _ _ hf
theorem ct_Tt_beginWithoutClash (V : Vx) (l : Launch) (σ : Sg) (v3 : Int32) {σ' : Sg} (hf : f_Tt_beginWithoutClash σ v3 = some σ') : Ct V l y_Tt_beginWithoutClash c_Tt_beginWithoutClash 7 none (k2_rm 6 150) [rf V 41, rf V 5, rf V 18, .int v3] σ none σ' := Ct.ofJ (by decide +kernel) (Nat.le_of_ble_eq_true rfl) fun X _ => j_Tt_beginWithoutClash _ v3 hf
def f_GR_putOff (σ : Sg) (v1 : Int32) : Option (Int32 × Sg) :=
  if (f_Ts_has σ v1) = 0 then
    some ((-2), σ)
  else
    (f_Tt_beginWithoutClash σ (σ.1 17 0)).bind fun σ3 =>
      some (f_Tt_startOf σ3 v1, σ3)
set_option maxHeartbeats 4000000 in
theorem j_GR_putOff {V : Vx} {X : Xx} {r : Int32} {σ' : Sg} (σ : Sg) (v1 : Int32) (hf : f_GR_putOff σ v1 = some (r, σ')) : J V X (k2_rm 7 176) c_GR_putOff R_GR 2 (some .int) (Qr V X (some (.int r)) σ') σ 0 [(0, rf V 0), (1, .int v1)] [] := by
  unfold f_GR_putOff at hf
  refine J_aload_n (pc' := 1) d_GR_putOff_0 rfl 0 rfl ?_
  refine J_getR (pc' := 4) d_GR_putOff_1 rfl sh_0 fl_GR_35 rfl ?_
  refine J_iload_n (pc' := 5) d_GR_putOff_4 rfl 1 rfl ?_
  refine J_V (pc' := 8) (as := [.int v1]) (rest := []) (st' := [.int (f_Ts_has σ v1)]) d_GR_putOff_5 rfl sh_18 rfl mv_GR_175 (ct_Ts_has V _ σ v1) rfl rfl ⟨Nat.le_of_ble_eq_true rfl, Nat.le_of_ble_eq_true rfl⟩ ⟨rfl, rfl⟩ (Nat.le_of_ble_eq_true rfl) rfl ?_
  refine J_if_ne (pc' := 11) (tgt := 14) d_GR_putOff_8 rfl (by decide) (fun hc1 => ?_) (fun hc1 => ?_)
  · have hf := brF hc1 hf
    refine J_aload_n (pc' := 15) d_GR_putOff_14 rfl 0 rfl ?_
    refine J_getR (pc' := 18) d_GR_putOff_15 rfl sh_0 fl_GR_42 rfl ?_
    refine J_aload_n (pc' := 19) d_GR_putOff_18 rfl 0 rfl ?_
    refine J_getR (pc' := 22) d_GR_putOff_19 rfl sh_0 fl_GR_24 rfl ?_
    refine J_aload_n (pc' := 23) d_GR_putOff_22 rfl 0 rfl ?_
    refine J_getR (pc' := 26) d_GR_putOff_23 rfl sh_0 fl_GR_35 rfl ?_
    refine J_aload_n (pc' := 27) d_GR_putOff_26 rfl 0 rfl ?_
    refine J_getR (pc' := 30) d_GR_putOff_27 rfl sh_0 fl_GR_28 rfl ?_
    refine J_iconst (pc' := 31) (v := 0) d_GR_putOff_30 rfl ic_0 ?_
    refine J_ial (pc' := 32) d_GR_putOff_31 rfl sh_17 (vin_c (by decide)) ?_
    obtain ⟨σ3, hq2, hf⟩ := bpE hf
    refine J_V (pc' := 35) (as := [rf V 5, rf V 18, .int (σ.1 17 0)]) (rest := []) (st' := []) d_GR_putOff_32 rfl sh_41 rfl mv_GR_191 (ct_Tt_beginWithoutClash V _ σ (σ.1 17 0) hq2) rfl rfl ⟨Nat.le_of_ble_eq_true rfl, Nat.le_of_ble_eq_true rfl⟩ ⟨rfl, rfl⟩ (Nat.le_of_ble_eq_true rfl) rfl ?_
    refine J_aload_n (pc' := 36) d_GR_putOff_35 rfl 0 rfl ?_
    refine J_getR (pc' := 39) d_GR_putOff_36 rfl sh_0 fl_GR_42 rfl ?_
    refine J_iload_n (pc' := 40) d_GR_putOff_39 rfl 1 rfl ?_
    refine J_V (pc' := 43) (as := [.int v1]) (rest := []) (st' := [.int (f_Tt_startOf σ3 v1)]) d_GR_putOff_40 rfl sh_41 rfl mv_GR_195 (ct_Tt_startOf V _ σ3 v1) rfl rfl ⟨Nat.le_of_ble_eq_true rfl, Nat.le_of_ble_eq_true rfl⟩ ⟨rfl, rfl⟩ (Nat.le_of_ble_eq_true rfl) rfl ?_
    obtain ⟨rfl, rfl⟩ := resE hf
    exact J_iret d_GR_putOff_43
  · have hf := brT hc1 hf
    refine J_bipush (pc' := 13) (v := (-2)) d_GR_putOff_11 rfl bc_m2 ?_
    obtain ⟨rfl, rfl⟩ := resE hf
    exact J_iret d_GR_putOff_13
theorem ct_GR_putOff (V : Vx) (l : Launch) (σ : Sg) (v1 : Int32) {r : Int32} {σ' : Sg} (hf : f_GR_putOff σ v1 = some (r, σ')) : Ct V l y_GR_putOff c_GR_putOff 2 (some .int) (k2_rm 7 176) [rf V 0, .int v1] σ (some (.int r)) σ' := Ct.ofJ (by decide +kernel) (Nat.le_of_ble_eq_true rfl) fun X _ => j_GR_putOff _ v1 hf
def f_Ts_breakerOf_49 (k5 : Sg → Int32 → Int32 → Int32 → Int32 → Option Int32) (σ : Sg) (v1 : Int32) (v2 : Int32) (v3 : Int32) (v4 : Int32) : Option Int32 :=
  k5 σ v1 v2 v3 (v4 + 1)
set_option maxHeartbeats 4000000 in
theorem j_Ts_breakerOf_49 {V : Vx} {X : Xx} {σ : Sg} {r : Int32} {k5 : Sg → Int32 → Int32 → Int32 → Int32 → Option Int32} (hk5 : ∀ (v1 : Int32) (v2 : Int32) (v3 : Int32) (v4 : Int32), k5 σ v1 v2 v3 v4 = some r → J V X (k2_rm 2 43) c_Ts_breakerOf R_Ts 6 (some .int) (Qr V X (some (.int r)) σ) σ 5 [(0, rf V 18), (1, .int v1), (2, .int v2), (3, .int v3), (4, .int v4)] []) (v1 : Int32) (v2 : Int32) (v3 : Int32) (v4 : Int32) (hf : f_Ts_breakerOf_49 k5 σ v1 v2 v3 v4 = some r) : J V X (k2_rm 2 43) c_Ts_breakerOf R_Ts 6 (some .int) (Qr V X (some (.int r)) σ) σ 49 [(0, rf V 18), (1, .int v1), (2, .int v2), (3, .int v3), (4, .int v4)] [] := by
  unfold f_Ts_breakerOf_49 at hf
  refine J_iinc (pc' := 52) (j := 4) (v := 1) (lv' := [(4, .int (v4 + 1)), (0, rf V 18), (1, .int v1), (2, .int v2), (3, .int v3)]) d_Ts_breakerOf_49 rfl rfl ic_1 (by decide) rfl ?_
  refine J_goto (tgt := 5) d_Ts_breakerOf_52 (by decide) ?_
  refine J_pick [1, 2, 3, 4, 0] rfl ?_
  exact hk5 _ _ _ _ hf
def f_Ts_breakerOf_5 : Nat → Sg → Int32 → Int32 → Int32 → Int32 → Option Int32
  | 0, _, _, _, _, _ => none
  | n + 1, σ, v1, v2, v3, v4 =>
    if (σ.1 18 2) ≤ v4 then
      some (-1)
    else
      if (σ.1 (f_Ts_at v4) 0) = v1 then
        if (v3 + ((σ.1 (f_Ts_at v4) 3) + 1)) ≤ v2 then f_Ts_breakerOf_49 (f_Ts_breakerOf_5 n) σ v1 v2 (v3 + ((σ.1 (f_Ts_at v4) 3) + 1)) v4 else some v4
      else
        f_Ts_breakerOf_49 (f_Ts_breakerOf_5 n) σ v1 v2 v3 v4
theorem f_Ts_breakerOf_5_s (n : Nat) (σ : Sg) (v1 : Int32) (v2 : Int32) (v3 : Int32) (v4 : Int32) : f_Ts_breakerOf_5 (n + 1) σ v1 v2 v3 v4 =
    if (σ.1 18 2) ≤ v4 then
      some (-1)
    else
      if (σ.1 (f_Ts_at v4) 0) = v1 then
        if (v3 + ((σ.1 (f_Ts_at v4) 3) + 1)) ≤ v2 then f_Ts_breakerOf_49 (f_Ts_breakerOf_5 n) σ v1 v2 (v3 + ((σ.1 (f_Ts_at v4) 3) + 1)) v4 else some v4
      else
        f_Ts_breakerOf_49 (f_Ts_breakerOf_5 n) σ v1 v2 v3 v4 := rfl
set_option maxHeartbeats 4000000 in
theorem j_Ts_breakerOf_5 {V : Vx} {X : Xx} {σ : Sg} {r : Int32}  : ∀ (n : Nat) (v1 : Int32) (v2 : Int32) (v3 : Int32) (v4 : Int32), f_Ts_breakerOf_5 n σ v1 v2 v3 v4 = some r → J V X (k2_rm 2 43) c_Ts_breakerOf R_Ts 6 (some .int) (Qr V X (some (.int r)) σ) σ 5 [(0, rf V 18), (1, .int v1), (2, .int v2), (3, .int v3), (4, .int v4)] [] := by
  intro n
  induction n with
  | zero => intro v1 v2 v3 v4 hf; exact nn hf
  | succ n ih =>
    intro v1 v2 v3 v4 hf
    rw [f_Ts_breakerOf_5_s] at hf
    refine J_iload (pc' := 7) d_Ts_breakerOf_5 rfl 4 rfl ?_
    refine J_aload_n (pc' := 8) d_Ts_breakerOf_7 rfl 0 rfl ?_
    refine J_getI (pc' := 11) d_Ts_breakerOf_8 rfl sh_18 fl_Ts_22 rfl ?_
    refine J_icmp_ge (pc' := 14) (tgt := 55) d_Ts_breakerOf_11 rfl (by decide) (fun hc1 => ?_) (fun hc1 => ?_)
    · have hf := brT hc1 hf
      refine J_iconst (pc' := 56) (v := (-1)) d_Ts_breakerOf_55 rfl ic_m1 ?_
      obtain rfl := Option.some.inj hf
      exact J_iret d_Ts_breakerOf_56
    · have hf := brF hc1 hf
      refine J_aload_n (pc' := 15) d_Ts_breakerOf_14 rfl 0 rfl ?_
      refine J_iload (pc' := 17) d_Ts_breakerOf_15 rfl 4 rfl ?_
      refine J_V (pc' := 20) (as := [.int v4]) (rest := []) (st' := [rf V (f_Ts_at v4)]) d_Ts_breakerOf_17 rfl sh_18 rfl mv_Ts_34 (ct_Ts_at V _ σ v4) rfl rfl ⟨Nat.le_of_ble_eq_true rfl, Nat.le_of_ble_eq_true rfl⟩ ⟨rfl, rfl⟩ (Nat.le_of_ble_eq_true rfl) rfl ?_
      refine J_astore (pc' := 22) (lv' := [(5, rf V (f_Ts_at v4)), (0, rf V 18), (1, .int v1), (2, .int v2), (3, .int v3), (4, .int v4)]) d_Ts_breakerOf_20 rfl (by decide) rfl ?_
      refine J_aload (pc' := 24) d_Ts_breakerOf_22 rfl 0 rfl ?_
      refine J_getI (pc' := 27) d_Ts_breakerOf_24 rfl (sh_Tr (is_Ts_at v4)) fl_Ts_38 rfl ?_
      refine J_iload_n (pc' := 28) d_Ts_breakerOf_27 rfl 2 rfl ?_
      refine J_icmp_ne (pc' := 31) (tgt := 49) d_Ts_breakerOf_28 rfl (by decide) (fun hc2 => ?_) (fun hc2 => ?_)
      · have hf := brF hc2 hf
        refine J_pick [1, 2, 3, 4, 5] rfl ?_
        exact j_Ts_breakerOf_49 ih _ _ _ _ hf
      · have hf := brT hc2 hf
        refine J_iload_n (pc' := 32) d_Ts_breakerOf_31 rfl 4 rfl ?_
        refine J_aload (pc' := 34) d_Ts_breakerOf_32 rfl 0 rfl ?_
        refine J_getI (pc' := 37) d_Ts_breakerOf_34 rfl (sh_Tr (is_Ts_at v4)) fl_Ts_47 rfl ?_
        refine J_iconst (pc' := 38) (v := 1) d_Ts_breakerOf_37 rfl ic_1 ?_
        refine J_iadd (pc' := 39) d_Ts_breakerOf_38 rfl ?_
        refine J_iadd (pc' := 40) d_Ts_breakerOf_39 rfl ?_
        refine J_istore_n (pc' := 41) (lv' := [(3, .int (v3 + ((σ.1 (f_Ts_at v4) 3) + 1))), (5, rf V (f_Ts_at v4)), (0, rf V 18), (1, .int v1), (2, .int v2), (4, .int v4)]) d_Ts_breakerOf_40 rfl rfl (by decide) rfl ?_
        refine J_iload_n (pc' := 42) d_Ts_breakerOf_41 rfl 0 rfl ?_
        refine J_iload_n (pc' := 43) d_Ts_breakerOf_42 rfl 4 rfl ?_
        refine J_icmp_le (pc' := 46) (tgt := 49) d_Ts_breakerOf_43 rfl (by decide) (fun hc3 => ?_) (fun hc3 => ?_)
        · have hf := brT hc3 hf
          refine J_pick [2, 3, 4, 0, 5] rfl ?_
          exact j_Ts_breakerOf_49 ih _ _ _ _ hf
        · have hf := brF hc3 hf
          refine J_iload (pc' := 48) d_Ts_breakerOf_46 rfl 5 rfl ?_
          obtain rfl := Option.some.inj hf
          exact J_iret d_Ts_breakerOf_48
def f_Ts_breakerOf (σ : Sg) (v1 : Int32) (v2 : Int32) : Option Int32 :=
  f_Ts_breakerOf_5 FU σ v1 v2 0 0
set_option maxHeartbeats 4000000 in
theorem j_Ts_breakerOf {V : Vx} {X : Xx} {r : Int32} (σ : Sg) (v1 : Int32) (v2 : Int32) (hf : f_Ts_breakerOf σ v1 v2 = some r) : J V X (k2_rm 2 43) c_Ts_breakerOf R_Ts 6 (some .int) (Qr V X (some (.int r)) σ) σ 0 [(0, rf V 18), (1, .int v1), (2, .int v2)] [] := by
  unfold f_Ts_breakerOf at hf
  refine J_iconst (pc' := 1) (v := 0) d_Ts_breakerOf_0 rfl ic_0 ?_
  refine J_istore_n (pc' := 2) (lv' := [(3, .int 0), (0, rf V 18), (1, .int v1), (2, .int v2)]) d_Ts_breakerOf_1 rfl rfl (by decide) rfl ?_
  refine J_iconst (pc' := 3) (v := 0) d_Ts_breakerOf_2 rfl ic_0 ?_
  refine J_istore (pc' := 5) (lv' := [(4, .int 0), (3, .int 0), (0, rf V 18), (1, .int v1), (2, .int v2)]) d_Ts_breakerOf_3 rfl (by decide) rfl ?_
  refine J_pick [2, 3, 4, 1, 0] rfl ?_
  exact j_Ts_breakerOf_5 FU _ _ _ _ hf
theorem ct_Ts_breakerOf (V : Vx) (l : Launch) (σ : Sg) (v1 : Int32) (v2 : Int32) {r : Int32} (hf : f_Ts_breakerOf σ v1 v2 = some r) : Ct V l y_Ts_breakerOf c_Ts_breakerOf 6 (some .int) (k2_rm 2 43) [rf V 18, .int v1, .int v2] σ (some (.int r)) σ := Ct.ofJ (by decide +kernel) (Nat.le_of_ble_eq_true rfl) fun X _ => j_Ts_breakerOf _ v1 v2 hf
