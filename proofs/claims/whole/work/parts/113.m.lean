theorem d_Md_readsRopes_0 : decode c_Md_readsRopes 0 = .ok (.aload_n 0, 1) := by decide +kernel
theorem d_Md_readsRopes_1 : decode c_Md_readsRopes 1 = .ok (.iconst 0, 1) := by decide +kernel
theorem d_Md_readsRopes_2 : decode c_Md_readsRopes 2 = .ok (.putfield 111, 3) := by decide +kernel
theorem d_Md_readsRopes_5 : decode c_Md_readsRopes 5 = .ok (.aload_n 0, 1) := by decide +kernel
theorem d_Md_readsRopes_6 : decode c_Md_readsRopes 6 = .ok (.iconst 0, 1) := by decide +kernel
theorem d_Md_readsRopes_7 : decode c_Md_readsRopes 7 = .ok (.putfield 114, 3) := by decide +kernel
theorem d_Md_readsRopes_10 : decode c_Md_readsRopes 10 = .ok (.aload_n 0, 1) := by decide +kernel
theorem d_Md_readsRopes_11 : decode c_Md_readsRopes 11 = .ok (.getfield 25, 3) := by decide +kernel
theorem d_Md_readsRopes_14 : decode c_Md_readsRopes 14 = .ok (.iconst 0, 1) := by decide +kernel
theorem d_Md_readsRopes_15 : decode c_Md_readsRopes 15 = .ok (.iaload, 1) := by decide +kernel
theorem d_Md_readsRopes_16 : decode c_Md_readsRopes 16 = .ok (.ifCond .le 7, 3) := by decide +kernel
theorem d_Md_readsRopes_19 : decode c_Md_readsRopes 19 = .ok (.iconst 1, 1) := by decide +kernel
theorem d_Md_readsRopes_20 : decode c_Md_readsRopes 20 = .ok (.goto 4, 3) := by decide +kernel
theorem d_Md_readsRopes_23 : decode c_Md_readsRopes 23 = .ok (.iconst 0, 1) := by decide +kernel
theorem d_Md_readsRopes_24 : decode c_Md_readsRopes 24 = .ok (.istore_n 1, 1) := by decide +kernel
theorem d_Md_readsRopes_25 : decode c_Md_readsRopes 25 = .ok (.iload_n 1, 1) := by decide +kernel
theorem d_Md_readsRopes_26 : decode c_Md_readsRopes 26 = .ok (.ifCond .eq 83, 3) := by decide +kernel
theorem d_Md_readsRopes_29 : decode c_Md_readsRopes 29 = .ok (.aload_n 0, 1) := by decide +kernel
theorem d_Md_readsRopes_30 : decode c_Md_readsRopes 30 = .ok (.invokevirtual 124, 3) := by decide +kernel
theorem d_Md_readsRopes_33 : decode c_Md_readsRopes 33 = .ok (.ifCond .ne 13, 3) := by decide +kernel
theorem d_Md_readsRopes_36 : decode c_Md_readsRopes 36 = .ok (.aload_n 0, 1) := by decide +kernel
theorem d_Md_readsRopes_37 : decode c_Md_readsRopes 37 = .ok (.iconst 0, 1) := by decide +kernel
theorem d_Md_readsRopes_38 : decode c_Md_readsRopes 38 = .ok (.putfield 114, 3) := by decide +kernel
theorem d_Md_readsRopes_41 : decode c_Md_readsRopes 41 = .ok (.aload_n 0, 1) := by decide +kernel
theorem d_Md_readsRopes_42 : decode c_Md_readsRopes 42 = .ok (.getfield 111, 3) := by decide +kernel
theorem d_Md_readsRopes_45 : decode c_Md_readsRopes 45 = .ok (.ireturn, 1) := by decide +kernel
theorem d_Md_readsRopes_46 : decode c_Md_readsRopes 46 = .ok (.aload_n 0, 1) := by decide +kernel
theorem d_Md_readsRopes_47 : decode c_Md_readsRopes 47 = .ok (.getfield 111, 3) := by decide +kernel
theorem d_Md_readsRopes_50 : decode c_Md_readsRopes 50 = .ok (.aload_n 0, 1) := by decide +kernel
theorem d_Md_readsRopes_51 : decode c_Md_readsRopes 51 = .ok (.getfield 25, 3) := by decide +kernel
theorem d_Md_readsRopes_54 : decode c_Md_readsRopes 54 = .ok (.iconst 0, 1) := by decide +kernel
theorem d_Md_readsRopes_55 : decode c_Md_readsRopes 55 = .ok (.iaload, 1) := by decide +kernel
theorem d_Md_readsRopes_56 : decode c_Md_readsRopes 56 = .ok (.if_icmp .ge 7, 3) := by decide +kernel
theorem d_Md_readsRopes_59 : decode c_Md_readsRopes 59 = .ok (.iconst 1, 1) := by decide +kernel
theorem d_Md_readsRopes_60 : decode c_Md_readsRopes 60 = .ok (.goto 4, 3) := by decide +kernel
theorem d_Md_readsRopes_63 : decode c_Md_readsRopes 63 = .ok (.iconst 0, 1) := by decide +kernel
theorem d_Md_readsRopes_64 : decode c_Md_readsRopes 64 = .ok (.istore_n 1, 1) := by decide +kernel
theorem d_Md_readsRopes_65 : decode c_Md_readsRopes 65 = .ok (.iload_n 1, 1) := by decide +kernel
theorem d_Md_readsRopes_66 : decode c_Md_readsRopes 66 = .ok (.ifCond .eq 22, 3) := by decide +kernel
theorem d_Md_readsRopes_69 : decode c_Md_readsRopes 69 = .ok (.aload_n 0, 1) := by decide +kernel
theorem d_Md_readsRopes_70 : decode c_Md_readsRopes 70 = .ok (.invokevirtual 117, 3) := by decide +kernel
theorem d_Md_readsRopes_73 : decode c_Md_readsRopes 73 = .ok (.bipush 59, 2) := by decide +kernel
theorem d_Md_readsRopes_75 : decode c_Md_readsRopes 75 = .ok (.if_icmp .eq 13, 3) := by decide +kernel
theorem d_Md_readsRopes_78 : decode c_Md_readsRopes 78 = .ok (.aload_n 0, 1) := by decide +kernel
theorem d_Md_readsRopes_79 : decode c_Md_readsRopes 79 = .ok (.iconst 0, 1) := by decide +kernel
theorem d_Md_readsRopes_80 : decode c_Md_readsRopes 80 = .ok (.putfield 114, 3) := by decide +kernel
theorem d_Md_readsRopes_83 : decode c_Md_readsRopes 83 = .ok (.aload_n 0, 1) := by decide +kernel
theorem d_Md_readsRopes_84 : decode c_Md_readsRopes 84 = .ok (.getfield 111, 3) := by decide +kernel
theorem d_Md_readsRopes_87 : decode c_Md_readsRopes 87 = .ok (.ireturn, 1) := by decide +kernel
theorem d_Md_readsRopes_88 : decode c_Md_readsRopes 88 = .ok (.aload_n 0, 1) := by decide +kernel
theorem d_Md_readsRopes_89 : decode c_Md_readsRopes 89 = .ok (.dup, 1) := by decide +kernel
theorem d_Md_readsRopes_90 : decode c_Md_readsRopes 90 = .ok (.getfield 111, 3) := by decide +kernel
theorem d_Md_readsRopes_93 : decode c_Md_readsRopes 93 = .ok (.iload_n 1, 1) := by decide +kernel
theorem d_Md_readsRopes_94 : decode c_Md_readsRopes 94 = .ok (.ifCond .eq 7, 3) := by decide +kernel
theorem d_Md_readsRopes_97 : decode c_Md_readsRopes 97 = .ok (.iconst 1, 1) := by decide +kernel
theorem d_Md_readsRopes_98 : decode c_Md_readsRopes 98 = .ok (.goto 4, 3) := by decide +kernel
theorem d_Md_readsRopes_101 : decode c_Md_readsRopes 101 = .ok (.iconst 0, 1) := by decide +kernel
theorem d_Md_readsRopes_102 : decode c_Md_readsRopes 102 = .ok (.iadd, 1) := by decide +kernel
theorem d_Md_readsRopes_103 : decode c_Md_readsRopes 103 = .ok (.putfield 111, 3) := by decide +kernel
theorem d_Md_readsRopes_106 : decode c_Md_readsRopes 106 = .ok (.goto (-81), 3) := by decide +kernel
theorem d_Md_readsRopes_109 : decode c_Md_readsRopes 109 = .ok (.iconst (-1), 1) := by decide +kernel
theorem d_Md_readsRopes_110 : decode c_Md_readsRopes 110 = .ok (.ireturn, 1) := by decide +kernel
theorem d_Md_isRope_0 : decode c_Md_isRope 0 = .ok (.iload_n 1, 1) := by decide +kernel
theorem d_Md_isRope_1 : decode c_Md_isRope 1 = .ok (.i2l, 1) := by decide +kernel
theorem d_Md_isRope_2 : decode c_Md_isRope 2 = .ok (.lconst 0, 1) := by decide +kernel
theorem d_Md_isRope_3 : decode c_Md_isRope 3 = .ok (.aload_n 0, 1) := by decide +kernel
theorem d_Md_isRope_4 : decode c_Md_isRope 4 = .ok (.getfield 114, 3) := by decide +kernel
theorem d_Md_isRope_7 : decode c_Md_isRope 7 = .ok (.iconst 1, 1) := by decide +kernel
theorem d_Md_isRope_8 : decode c_Md_isRope 8 = .ok (.isub, 1) := by decide +kernel
theorem d_Md_isRope_9 : decode c_Md_isRope 9 = .ok (.i2l, 1) := by decide +kernel
theorem d_Md_isRope_10 : decode c_Md_isRope 10 = .ok (.invokestatic 73, 3) := by decide +kernel
theorem d_Md_isRope_13 : decode c_Md_isRope 13 = .ok (.ireturn, 1) := by decide +kernel
theorem d_Md_readsRight_0 : decode c_Md_readsRight 0 = .ok (.iconst 0, 1) := by decide +kernel
theorem d_Md_readsRight_1 : decode c_Md_readsRight 1 = .ok (.istore_n 1, 1) := by decide +kernel
theorem d_Md_readsRight_2 : decode c_Md_readsRight 2 = .ok (.iload_n 1, 1) := by decide +kernel
theorem d_Md_readsRight_3 : decode c_Md_readsRight 3 = .ok (.bipush 8, 2) := by decide +kernel
theorem d_Md_readsRight_5 : decode c_Md_readsRight 5 = .ok (.if_icmp .ge 16, 3) := by decide +kernel
theorem d_Md_readsRight_8 : decode c_Md_readsRight 8 = .ok (.aload_n 0, 1) := by decide +kernel
theorem d_Md_readsRight_9 : decode c_Md_readsRight 9 = .ok (.getfield 31, 3) := by decide +kernel
theorem d_Md_readsRight_12 : decode c_Md_readsRight 12 = .ok (.iload_n 1, 1) := by decide +kernel
theorem d_Md_readsRight_13 : decode c_Md_readsRight 13 = .ok (.iconst (-1), 1) := by decide +kernel
theorem d_Md_readsRight_14 : decode c_Md_readsRight 14 = .ok (.iastore, 1) := by decide +kernel
theorem d_Md_readsRight_15 : decode c_Md_readsRight 15 = .ok (.iinc 1 1, 3) := by decide +kernel
theorem d_Md_readsRight_18 : decode c_Md_readsRight 18 = .ok (.goto (-16), 3) := by decide +kernel
theorem d_Md_readsRight_21 : decode c_Md_readsRight 21 = .ok (.iconst 0, 1) := by decide +kernel
theorem d_Md_readsRight_22 : decode c_Md_readsRight 22 = .ok (.istore_n 1, 1) := by decide +kernel
theorem d_Md_readsRight_23 : decode c_Md_readsRight 23 = .ok (.iload_n 1, 1) := by decide +kernel
theorem d_Md_readsRight_24 : decode c_Md_readsRight 24 = .ok (.aload_n 0, 1) := by decide +kernel
theorem d_Md_readsRight_25 : decode c_Md_readsRight 25 = .ok (.getfield 25, 3) := by decide +kernel
theorem d_Md_readsRight_28 : decode c_Md_readsRight 28 = .ok (.iconst 1, 1) := by decide +kernel
theorem d_Md_readsRight_29 : decode c_Md_readsRight 29 = .ok (.iaload, 1) := by decide +kernel
theorem d_Md_readsRight_30 : decode c_Md_readsRight 30 = .ok (.if_icmp .ge 49, 3) := by decide +kernel
theorem d_Md_readsRight_33 : decode c_Md_readsRight 33 = .ok (.aload_n 0, 1) := by decide +kernel
theorem d_Md_readsRight_34 : decode c_Md_readsRight 34 = .ok (.getfield 22, 3) := by decide +kernel
theorem d_Md_readsRight_37 : decode c_Md_readsRight 37 = .ok (.bipush 60, 2) := by decide +kernel
theorem d_Md_readsRight_39 : decode c_Md_readsRight 39 = .ok (.iload_n 1, 1) := by decide +kernel
theorem d_Md_readsRight_40 : decode c_Md_readsRight 40 = .ok (.iadd, 1) := by decide +kernel
theorem d_Md_readsRight_41 : decode c_Md_readsRight 41 = .ok (.iaload, 1) := by decide +kernel
theorem d_Md_readsRight_42 : decode c_Md_readsRight 42 = .ok (.bipush 48, 2) := by decide +kernel
theorem d_Md_readsRight_44 : decode c_Md_readsRight 44 = .ok (.isub, 1) := by decide +kernel
theorem d_Md_readsRight_45 : decode c_Md_readsRight 45 = .ok (.istore_n 2, 1) := by decide +kernel
theorem d_Md_readsRight_46 : decode c_Md_readsRight 46 = .ok (.aload_n 0, 1) := by decide +kernel
theorem d_Md_readsRight_47 : decode c_Md_readsRight 47 = .ok (.iload_n 2, 1) := by decide +kernel
theorem d_Md_readsRight_48 : decode c_Md_readsRight 48 = .ok (.invokevirtual 128, 3) := by decide +kernel
theorem d_Md_readsRight_51 : decode c_Md_readsRight 51 = .ok (.ifCond .eq 13, 3) := by decide +kernel
theorem d_Md_readsRight_54 : decode c_Md_readsRight 54 = .ok (.aload_n 0, 1) := by decide +kernel
theorem d_Md_readsRight_55 : decode c_Md_readsRight 55 = .ok (.getfield 31, 3) := by decide +kernel
theorem d_Md_readsRight_58 : decode c_Md_readsRight 58 = .ok (.iload_n 2, 1) := by decide +kernel
theorem d_Md_readsRight_59 : decode c_Md_readsRight 59 = .ok (.iaload, 1) := by decide +kernel
theorem d_Md_readsRight_60 : decode c_Md_readsRight 60 = .ok (.iconst (-1), 1) := by decide +kernel
theorem d_Md_readsRight_61 : decode c_Md_readsRight 61 = .ok (.if_icmp .eq 5, 3) := by decide +kernel
theorem d_Md_readsRight_64 : decode c_Md_readsRight 64 = .ok (.iload_n 1, 1) := by decide +kernel
theorem d_Md_readsRight_65 : decode c_Md_readsRight 65 = .ok (.ireturn, 1) := by decide +kernel
theorem d_Md_readsRight_66 : decode c_Md_readsRight 66 = .ok (.aload_n 0, 1) := by decide +kernel
theorem d_Md_readsRight_67 : decode c_Md_readsRight 67 = .ok (.getfield 31, 3) := by decide +kernel
theorem d_Md_readsRight_70 : decode c_Md_readsRight 70 = .ok (.iload_n 2, 1) := by decide +kernel
theorem d_Md_readsRight_71 : decode c_Md_readsRight 71 = .ok (.iload_n 1, 1) := by decide +kernel
theorem d_Md_readsRight_72 : decode c_Md_readsRight 72 = .ok (.iastore, 1) := by decide +kernel
theorem d_Md_readsRight_73 : decode c_Md_readsRight 73 = .ok (.iinc 1 1, 3) := by decide +kernel
theorem d_Md_readsRight_76 : decode c_Md_readsRight 76 = .ok (.goto (-53), 3) := by decide +kernel
theorem d_Md_readsRight_79 : decode c_Md_readsRight 79 = .ok (.iconst (-1), 1) := by decide +kernel
theorem d_Md_readsRight_80 : decode c_Md_readsRight 80 = .ok (.ireturn, 1) := by decide +kernel
theorem d_Md_find_0 : decode c_Md_find 0 = .ok (.aload_n 0, 1) := by decide +kernel
theorem d_Md_find_1 : decode c_Md_find 1 = .ok (.invokevirtual 131, 3) := by decide +kernel
theorem d_Md_find_4 : decode c_Md_find 4 = .ok (.pop, 1) := by decide +kernel
theorem d_Md_find_5 : decode c_Md_find 5 = .ok (.aload_n 0, 1) := by decide +kernel
theorem d_Md_find_6 : decode c_Md_find 6 = .ok (.invokevirtual 134, 3) := by decide +kernel
theorem d_Md_find_9 : decode c_Md_find 9 = .ok (.istore_n 1, 1) := by decide +kernel
theorem d_Md_find_10 : decode c_Md_find 10 = .ok (.iload_n 1, 1) := by decide +kernel
theorem d_Md_find_11 : decode c_Md_find 11 = .ok (.iconst (-1), 1) := by decide +kernel
theorem d_Md_find_12 : decode c_Md_find 12 = .ok (.if_icmp .ne 12, 3) := by decide +kernel
theorem d_Md_find_15 : decode c_Md_find 15 = .ok (.aload_n 0, 1) := by decide +kernel
theorem d_Md_find_16 : decode c_Md_find 16 = .ok (.getfield 25, 3) := by decide +kernel
theorem d_Md_find_19 : decode c_Md_find 19 = .ok (.iconst 1, 1) := by decide +kernel
theorem d_Md_find_20 : decode c_Md_find 20 = .ok (.iaload, 1) := by decide +kernel
theorem d_Md_find_21 : decode c_Md_find 21 = .ok (.goto 4, 3) := by decide +kernel
theorem d_Md_find_24 : decode c_Md_find 24 = .ok (.iconst 0, 1) := by decide +kernel
theorem d_Md_find_25 : decode c_Md_find 25 = .ok (.istore_n 2, 1) := by decide +kernel
theorem d_Md_find_26 : decode c_Md_find 26 = .ok (.iconst 0, 1) := by decide +kernel
theorem d_Md_find_27 : decode c_Md_find 27 = .ok (.istore_n 3, 1) := by decide +kernel
theorem d_Md_find_28 : decode c_Md_find 28 = .ok (.iload_n 3, 1) := by decide +kernel
theorem d_Md_find_29 : decode c_Md_find 29 = .ok (.bipush 8, 2) := by decide +kernel
theorem d_Md_find_31 : decode c_Md_find 31 = .ok (.if_icmp .ge 44, 3) := by decide +kernel
theorem d_Md_find_34 : decode c_Md_find 34 = .ok (.iload_n 1, 1) := by decide +kernel
theorem d_Md_find_35 : decode c_Md_find 35 = .ok (.iconst (-1), 1) := by decide +kernel
theorem d_Md_find_36 : decode c_Md_find 36 = .ok (.if_icmp .eq 13, 3) := by decide +kernel
theorem d_Md_find_39 : decode c_Md_find 39 = .ok (.aload_n 0, 1) := by decide +kernel
theorem d_Md_find_40 : decode c_Md_find 40 = .ok (.getfield 31, 3) := by decide +kernel
theorem d_Md_find_43 : decode c_Md_find 43 = .ok (.iload_n 3, 1) := by decide +kernel
theorem d_Md_find_44 : decode c_Md_find 44 = .ok (.iload_n 3, 1) := by decide +kernel
theorem d_Md_find_45 : decode c_Md_find 45 = .ok (.iastore, 1) := by decide +kernel
theorem d_Md_find_46 : decode c_Md_find 46 = .ok (.goto 23, 3) := by decide +kernel
theorem d_Md_find_49 : decode c_Md_find 49 = .ok (.aload_n 0, 1) := by decide +kernel
theorem d_Md_find_50 : decode c_Md_find 50 = .ok (.getfield 31, 3) := by decide +kernel
theorem d_Md_find_53 : decode c_Md_find 53 = .ok (.iload_n 3, 1) := by decide +kernel
theorem d_Md_find_54 : decode c_Md_find 54 = .ok (.iaload, 1) := by decide +kernel
theorem d_Md_find_55 : decode c_Md_find 55 = .ok (.iconst (-1), 1) := by decide +kernel
theorem d_Md_find_56 : decode c_Md_find 56 = .ok (.if_icmp .ne 13, 3) := by decide +kernel
theorem d_Md_find_59 : decode c_Md_find 59 = .ok (.aload_n 0, 1) := by decide +kernel
theorem d_Md_find_60 : decode c_Md_find 60 = .ok (.getfield 31, 3) := by decide +kernel
theorem d_Md_find_63 : decode c_Md_find 63 = .ok (.iload_n 3, 1) := by decide +kernel
theorem d_Md_find_64 : decode c_Md_find 64 = .ok (.iload_n 2, 1) := by decide +kernel
theorem d_Md_find_65 : decode c_Md_find 65 = .ok (.iastore, 1) := by decide +kernel
theorem d_Md_find_66 : decode c_Md_find 66 = .ok (.iinc 2 1, 3) := by decide +kernel
theorem d_Md_find_69 : decode c_Md_find 69 = .ok (.iinc 3 1, 3) := by decide +kernel
theorem d_Md_find_72 : decode c_Md_find 72 = .ok (.goto (-44), 3) := by decide +kernel
theorem d_Md_find_75 : decode c_Md_find 75 = .ok (.iload_n 1, 1) := by decide +kernel
theorem d_Md_find_76 : decode c_Md_find 76 = .ok (.ireturn, 1) := by decide +kernel
theorem d_Md_faultOf_0 : decode c_Md_faultOf 0 = .ok (.iload_n 1, 1) := by decide +kernel
theorem d_Md_faultOf_1 : decode c_Md_faultOf 1 = .ok (.ifCond .ne 10, 3) := by decide +kernel
theorem d_Md_faultOf_4 : decode c_Md_faultOf 4 = .ok (.aload_n 0, 1) := by decide +kernel
theorem d_Md_faultOf_5 : decode c_Md_faultOf 5 = .ok (.invokevirtual 131, 3) := by decide +kernel
theorem d_Md_faultOf_8 : decode c_Md_faultOf 8 = .ok (.goto 7, 3) := by decide +kernel
theorem d_Md_faultOf_11 : decode c_Md_faultOf 11 = .ok (.aload_n 0, 1) := by decide +kernel
theorem d_Md_faultOf_12 : decode c_Md_faultOf 12 = .ok (.invokevirtual 137, 3) := by decide +kernel
theorem d_Md_faultOf_15 : decode c_Md_faultOf 15 = .ok (.ireturn, 1) := by decide +kernel
theorem d_Md_fault_0 : decode c_Md_fault 0 = .ok (.iload_n 1, 1) := by decide +kernel
theorem d_Md_fault_1 : decode c_Md_fault 1 = .ok (.invokestatic 106, 3) := by decide +kernel
theorem d_Md_fault_4 : decode c_Md_fault 4 = .ok (.ifCond .eq 11, 3) := by decide +kernel
theorem d_Md_fault_7 : decode c_Md_fault 7 = .ok (.aload_n 0, 1) := by decide +kernel
theorem d_Md_fault_8 : decode c_Md_fault 8 = .ok (.iload_n 1, 1) := by decide +kernel
theorem d_Md_fault_9 : decode c_Md_fault 9 = .ok (.invokevirtual 140, 3) := by decide +kernel
theorem d_Md_fault_12 : decode c_Md_fault 12 = .ok (.goto 5, 3) := by decide +kernel
theorem d_Md_fault_15 : decode c_Md_fault 15 = .ok (.bipush (-2), 2) := by decide +kernel
theorem d_Md_fault_17 : decode c_Md_fault 17 = .ok (.ireturn, 1) := by decide +kernel
theorem d_Md_hasRope_0 : decode c_Md_hasRope 0 = .ok (.aload_n 0, 1) := by decide +kernel
theorem d_Md_hasRope_1 : decode c_Md_hasRope 1 = .ok (.invokevirtual 137, 3) := by decide +kernel
theorem d_Md_hasRope_4 : decode c_Md_hasRope 4 = .ok (.pop, 1) := by decide +kernel
theorem d_Md_hasRope_5 : decode c_Md_hasRope 5 = .ok (.aload_n 0, 1) := by decide +kernel
theorem d_Md_hasRope_6 : decode c_Md_hasRope 6 = .ok (.iload_n 1, 1) := by decide +kernel
theorem d_Md_hasRope_7 : decode c_Md_hasRope 7 = .ok (.invokevirtual 128, 3) := by decide +kernel
theorem d_Md_hasRope_10 : decode c_Md_hasRope 10 = .ok (.ireturn, 1) := by decide +kernel
theorem d_Md_ropeOf_0 : decode c_Md_ropeOf 0 = .ok (.iload_n 2, 1) := by decide +kernel
theorem d_Md_ropeOf_1 : decode c_Md_ropeOf 1 = .ok (.bipush 6, 2) := by decide +kernel
theorem d_Md_ropeOf_3 : decode c_Md_ropeOf 3 = .ok (.if_icmp .ne 12, 3) := by decide +kernel
theorem d_Md_ropeOf_6 : decode c_Md_ropeOf 6 = .ok (.aload_n 0, 1) := by decide +kernel
theorem d_Md_ropeOf_7 : decode c_Md_ropeOf 7 = .ok (.getfield 31, 3) := by decide +kernel
theorem d_Md_ropeOf_10 : decode c_Md_ropeOf 10 = .ok (.iload_n 1, 1) := by decide +kernel
theorem d_Md_ropeOf_11 : decode c_Md_ropeOf 11 = .ok (.iaload, 1) := by decide +kernel
theorem d_Md_ropeOf_12 : decode c_Md_ropeOf 12 = .ok (.goto 14, 3) := by decide +kernel
theorem d_Md_ropeOf_15 : decode c_Md_ropeOf 15 = .ok (.aload_n 0, 1) := by decide +kernel
theorem d_Md_ropeOf_16 : decode c_Md_ropeOf 16 = .ok (.getfield 28, 3) := by decide +kernel
theorem d_Md_ropeOf_19 : decode c_Md_ropeOf 19 = .ok (.bipush 6, 2) := by decide +kernel
theorem d_Md_ropeOf_21 : decode c_Md_ropeOf 21 = .ok (.iload_n 1, 1) := by decide +kernel
theorem d_Md_ropeOf_22 : decode c_Md_ropeOf 22 = .ok (.imul, 1) := by decide +kernel
theorem d_Md_ropeOf_23 : decode c_Md_ropeOf 23 = .ok (.iload_n 2, 1) := by decide +kernel
theorem d_Md_ropeOf_24 : decode c_Md_ropeOf 24 = .ok (.iadd, 1) := by decide +kernel
theorem d_Md_ropeOf_25 : decode c_Md_ropeOf 25 = .ok (.iaload, 1) := by decide +kernel
theorem d_Md_ropeOf_26 : decode c_Md_ropeOf 26 = .ok (.ireturn, 1) := by decide +kernel
theorem d_Md_rope_0 : decode c_Md_rope 0 = .ok (.aload_n 0, 1) := by decide +kernel
theorem d_Md_rope_1 : decode c_Md_rope 1 = .ok (.iload_n 1, 1) := by decide +kernel
theorem d_Md_rope_2 : decode c_Md_rope 2 = .ok (.invokevirtual 143, 3) := by decide +kernel
theorem d_Md_rope_5 : decode c_Md_rope 5 = .ok (.ifCond .eq 24, 3) := by decide +kernel
theorem d_Md_rope_8 : decode c_Md_rope 8 = .ok (.iload_n 2, 1) := by decide +kernel
theorem d_Md_rope_9 : decode c_Md_rope 9 = .ok (.i2l, 1) := by decide +kernel
theorem d_Md_rope_10 : decode c_Md_rope 10 = .ok (.lconst 0, 1) := by decide +kernel
theorem d_Md_rope_11 : decode c_Md_rope 11 = .ok (.ldc2_w 146, 3) := by decide +kernel
theorem d_Md_rope_14 : decode c_Md_rope 14 = .ok (.invokestatic 73, 3) := by decide +kernel
theorem d_Md_rope_17 : decode c_Md_rope 17 = .ok (.ifCond .eq 12, 3) := by decide +kernel
theorem d_Md_rope_20 : decode c_Md_rope 20 = .ok (.aload_n 0, 1) := by decide +kernel
theorem d_Md_rope_21 : decode c_Md_rope 21 = .ok (.iload_n 1, 1) := by decide +kernel
theorem d_Md_rope_22 : decode c_Md_rope 22 = .ok (.iload_n 2, 1) := by decide +kernel
theorem d_Md_rope_23 : decode c_Md_rope 23 = .ok (.invokevirtual 148, 3) := by decide +kernel
theorem d_Md_rope_26 : decode c_Md_rope 26 = .ok (.goto 5, 3) := by decide +kernel
theorem d_Md_rope_29 : decode c_Md_rope 29 = .ok (.bipush (-2), 2) := by decide +kernel
theorem d_Md_rope_31 : decode c_Md_rope 31 = .ok (.ireturn, 1) := by decide +kernel
theorem d_Md_areTwo_0 : decode c_Md_areTwo 0 = .ok (.aload_n 0, 1) := by decide +kernel
theorem d_Md_areTwo_1 : decode c_Md_areTwo 1 = .ok (.iload_n 1, 1) := by decide +kernel
theorem d_Md_areTwo_2 : decode c_Md_areTwo 2 = .ok (.invokevirtual 143, 3) := by decide +kernel
theorem d_Md_areTwo_5 : decode c_Md_areTwo 5 = .ok (.ifCond .eq 20, 3) := by decide +kernel
theorem d_Md_areTwo_8 : decode c_Md_areTwo 8 = .ok (.aload_n 0, 1) := by decide +kernel
theorem d_Md_areTwo_9 : decode c_Md_areTwo 9 = .ok (.iload_n 2, 1) := by decide +kernel
theorem d_Md_areTwo_10 : decode c_Md_areTwo 10 = .ok (.invokevirtual 128, 3) := by decide +kernel
theorem d_Md_areTwo_13 : decode c_Md_areTwo 13 = .ok (.ifCond .eq 12, 3) := by decide +kernel
theorem d_Md_areTwo_16 : decode c_Md_areTwo 16 = .ok (.iload_n 1, 1) := by decide +kernel
theorem d_Md_areTwo_17 : decode c_Md_areTwo 17 = .ok (.iload_n 2, 1) := by decide +kernel
theorem d_Md_areTwo_18 : decode c_Md_areTwo 18 = .ok (.if_icmp .eq 7, 3) := by decide +kernel
theorem d_Md_areTwo_21 : decode c_Md_areTwo 21 = .ok (.iconst 1, 1) := by decide +kernel
theorem d_Md_areTwo_22 : decode c_Md_areTwo 22 = .ok (.goto 4, 3) := by decide +kernel
theorem d_Md_areTwo_25 : decode c_Md_areTwo 25 = .ok (.iconst 0, 1) := by decide +kernel
theorem d_Md_areTwo_26 : decode c_Md_areTwo 26 = .ok (.ireturn, 1) := by decide +kernel
theorem d_Md_above_0 : decode c_Md_above 0 = .ok (.aload_n 0, 1) := by decide +kernel
theorem d_Md_above_1 : decode c_Md_above 1 = .ok (.getfield 28, 3) := by decide +kernel
theorem d_Md_above_4 : decode c_Md_above 4 = .ok (.bipush 6, 2) := by decide +kernel
theorem d_Md_above_6 : decode c_Md_above 6 = .ok (.iload_n 1, 1) := by decide +kernel
theorem d_Md_above_7 : decode c_Md_above 7 = .ok (.imul, 1) := by decide +kernel
theorem d_Md_above_8 : decode c_Md_above 8 = .ok (.iload_n 3, 1) := by decide +kernel
theorem d_Md_above_9 : decode c_Md_above 9 = .ok (.iadd, 1) := by decide +kernel
theorem d_Md_above_10 : decode c_Md_above 10 = .ok (.iaload, 1) := by decide +kernel
theorem d_Md_above_11 : decode c_Md_above 11 = .ok (.aload_n 0, 1) := by decide +kernel
theorem d_Md_above_12 : decode c_Md_above 12 = .ok (.getfield 28, 3) := by decide +kernel
theorem d_Md_above_15 : decode c_Md_above 15 = .ok (.bipush 6, 2) := by decide +kernel
theorem d_Md_above_17 : decode c_Md_above 17 = .ok (.iload_n 2, 1) := by decide +kernel
theorem d_Md_above_18 : decode c_Md_above 18 = .ok (.imul, 1) := by decide +kernel
theorem d_Md_above_19 : decode c_Md_above 19 = .ok (.iload_n 3, 1) := by decide +kernel
theorem d_Md_above_20 : decode c_Md_above 20 = .ok (.iadd, 1) := by decide +kernel
theorem d_Md_above_21 : decode c_Md_above 21 = .ok (.iaload, 1) := by decide +kernel
theorem d_Md_above_22 : decode c_Md_above 22 = .ok (.isub, 1) := by decide +kernel
theorem d_Md_above_23 : decode c_Md_above 23 = .ok (.ireturn, 1) := by decide +kernel
theorem d_Md_doCross_0 : decode c_Md_doCross 0 = .ok (.aload_n 0, 1) := by decide +kernel
theorem d_Md_doCross_1 : decode c_Md_doCross 1 = .ok (.iload_n 1, 1) := by decide +kernel
theorem d_Md_doCross_2 : decode c_Md_doCross 2 = .ok (.iload_n 2, 1) := by decide +kernel
theorem d_Md_doCross_3 : decode c_Md_doCross 3 = .ok (.iconst 0, 1) := by decide +kernel
theorem d_Md_doCross_4 : decode c_Md_doCross 4 = .ok (.invokevirtual 151, 3) := by decide +kernel
theorem d_Md_doCross_7 : decode c_Md_doCross 7 = .ok (.istore_n 3, 1) := by decide +kernel
theorem d_Md_doCross_8 : decode c_Md_doCross 8 = .ok (.aload_n 0, 1) := by decide +kernel
theorem d_Md_doCross_9 : decode c_Md_doCross 9 = .ok (.iload_n 1, 1) := by decide +kernel
theorem d_Md_doCross_10 : decode c_Md_doCross 10 = .ok (.iload_n 2, 1) := by decide +kernel
theorem d_Md_doCross_11 : decode c_Md_doCross 11 = .ok (.iconst 1, 1) := by decide +kernel
theorem d_Md_doCross_12 : decode c_Md_doCross 12 = .ok (.invokevirtual 151, 3) := by decide +kernel
theorem d_Md_doCross_15 : decode c_Md_doCross 15 = .ok (.istore 4, 2) := by decide +kernel
theorem d_Md_doCross_17 : decode c_Md_doCross 17 = .ok (.iload_n 3, 1) := by decide +kernel
theorem d_Md_doCross_18 : decode c_Md_doCross 18 = .ok (.ifCond .le 8, 3) := by decide +kernel
theorem d_Md_doCross_21 : decode c_Md_doCross 21 = .ok (.iload 4, 2) := by decide +kernel
theorem d_Md_doCross_23 : decode c_Md_doCross 23 = .ok (.ifCond .lt 12, 3) := by decide +kernel
theorem d_Md_doCross_26 : decode c_Md_doCross 26 = .ok (.iload_n 3, 1) := by decide +kernel
theorem d_Md_doCross_27 : decode c_Md_doCross 27 = .ok (.ifCond .ge 12, 3) := by decide +kernel
theorem d_Md_doCross_30 : decode c_Md_doCross 30 = .ok (.iload 4, 2) := by decide +kernel
theorem d_Md_doCross_32 : decode c_Md_doCross 32 = .ok (.ifCond .le 7, 3) := by decide +kernel
theorem d_Md_doCross_35 : decode c_Md_doCross 35 = .ok (.iconst 1, 1) := by decide +kernel
theorem d_Md_doCross_36 : decode c_Md_doCross 36 = .ok (.goto 4, 3) := by decide +kernel
theorem d_Md_doCross_39 : decode c_Md_doCross 39 = .ok (.iconst 0, 1) := by decide +kernel
theorem d_Md_doCross_40 : decode c_Md_doCross 40 = .ok (.ireturn, 1) := by decide +kernel
theorem d_Md_crossesWith_0 : decode c_Md_crossesWith 0 = .ok (.iconst 0, 1) := by decide +kernel
theorem d_Md_crossesWith_1 : decode c_Md_crossesWith 1 = .ok (.istore_n 2, 1) := by decide +kernel
theorem d_Md_crossesWith_2 : decode c_Md_crossesWith 2 = .ok (.iconst 0, 1) := by decide +kernel
theorem d_Md_crossesWith_3 : decode c_Md_crossesWith 3 = .ok (.istore_n 3, 1) := by decide +kernel
theorem d_Md_crossesWith_4 : decode c_Md_crossesWith 4 = .ok (.iload_n 3, 1) := by decide +kernel
theorem d_Md_crossesWith_5 : decode c_Md_crossesWith 5 = .ok (.aload_n 0, 1) := by decide +kernel
theorem d_Md_crossesWith_6 : decode c_Md_crossesWith 6 = .ok (.getfield 114, 3) := by decide +kernel
theorem d_Md_crossesWith_9 : decode c_Md_crossesWith 9 = .ok (.if_icmp .ge 31, 3) := by decide +kernel
theorem d_Md_crossesWith_12 : decode c_Md_crossesWith 12 = .ok (.iload_n 2, 1) := by decide +kernel
theorem d_Md_crossesWith_13 : decode c_Md_crossesWith 13 = .ok (.iload_n 3, 1) := by decide +kernel
theorem d_Md_crossesWith_14 : decode c_Md_crossesWith 14 = .ok (.iload_n 1, 1) := by decide +kernel
theorem d_Md_crossesWith_15 : decode c_Md_crossesWith 15 = .ok (.if_icmp .eq 16, 3) := by decide +kernel
theorem d_Md_crossesWith_18 : decode c_Md_crossesWith 18 = .ok (.aload_n 0, 1) := by decide +kernel
theorem d_Md_crossesWith_19 : decode c_Md_crossesWith 19 = .ok (.iload_n 1, 1) := by decide +kernel
theorem d_Md_crossesWith_20 : decode c_Md_crossesWith 20 = .ok (.iload_n 3, 1) := by decide +kernel
theorem d_Md_crossesWith_21 : decode c_Md_crossesWith 21 = .ok (.invokevirtual 154, 3) := by decide +kernel
theorem d_Md_crossesWith_24 : decode c_Md_crossesWith 24 = .ok (.ifCond .eq 7, 3) := by decide +kernel
theorem d_Md_crossesWith_27 : decode c_Md_crossesWith 27 = .ok (.iconst 1, 1) := by decide +kernel
theorem d_Md_crossesWith_28 : decode c_Md_crossesWith 28 = .ok (.goto 4, 3) := by decide +kernel
theorem d_Md_crossesWith_31 : decode c_Md_crossesWith 31 = .ok (.iconst 0, 1) := by decide +kernel
theorem d_Md_crossesWith_32 : decode c_Md_crossesWith 32 = .ok (.iadd, 1) := by decide +kernel
theorem d_Md_crossesWith_33 : decode c_Md_crossesWith 33 = .ok (.istore_n 2, 1) := by decide +kernel
theorem d_Md_crossesWith_34 : decode c_Md_crossesWith 34 = .ok (.iinc 3 1, 3) := by decide +kernel
theorem d_Md_crossesWith_37 : decode c_Md_crossesWith 37 = .ok (.goto (-33), 3) := by decide +kernel
theorem d_Md_crossesWith_40 : decode c_Md_crossesWith 40 = .ok (.iload_n 2, 1) := by decide +kernel
theorem d_Md_crossesWith_41 : decode c_Md_crossesWith 41 = .ok (.ireturn, 1) := by decide +kernel
def f_Md_readsRopes_102 (k25 : Sg → Int32 → Option (Int32 × Sg)) (σ : Sg) (v1 : Int32) (s0 : Int32) (s1 : Int32) : Option (Int32 × Sg) :=
  k25 (pI σ 66 7 (s1 + s0)) v1
set_option maxHeartbeats 4000000 in
theorem j_Md_readsRopes_102 {V : Vx} {X : Xx} {r : Int32} {σ' : Sg} {k25 : Sg → Int32 → Option (Int32 × Sg)} (hk25 : ∀ (σ : Sg) (v1 : Int32), k25 σ v1 = some (r, σ') → J V X (k2_rm 2 47) c_Md_readsRopes R_Md 2 (some .int) (Qr V X (some (.int r)) σ') σ 25 [(0, rf V 66), (1, .int v1)] []) (σ : Sg) (v1 : Int32) (s0 : Int32) (s1 : Int32) (hf : f_Md_readsRopes_102 k25 σ v1 s0 s1 = some (r, σ')) : J V X (k2_rm 2 47) c_Md_readsRopes R_Md 2 (some .int) (Qr V X (some (.int r)) σ') σ 102 [(0, rf V 66), (1, .int v1)] [.int s0, .int s1, rf V 66] := by
  unfold f_Md_readsRopes_102 at hf
  refine J_iadd (pc' := 103) d_Md_readsRopes_102 rfl ?_
  refine J_putI (pc' := 106) d_Md_readsRopes_103 rfl sh_66 fp_Md_111 rfl ?_
  refine J_goto (tgt := 25) d_Md_readsRopes_106 (by decide) ?_
  exact hk25 _ _ hf
def f_Md_readsRopes_88 (k25 : Sg → Int32 → Option (Int32 × Sg)) (σ : Sg) (v1 : Int32) : Option (Int32 × Sg) :=
  if v1 = 0 then f_Md_readsRopes_102 k25 σ v1 0 (σ.1 66 7) else f_Md_readsRopes_102 k25 σ v1 1 (σ.1 66 7)
set_option maxHeartbeats 4000000 in
theorem j_Md_readsRopes_88 {V : Vx} {X : Xx} {r : Int32} {σ' : Sg} {k25 : Sg → Int32 → Option (Int32 × Sg)} (hk25 : ∀ (σ : Sg) (v1 : Int32), k25 σ v1 = some (r, σ') → J V X (k2_rm 2 47) c_Md_readsRopes R_Md 2 (some .int) (Qr V X (some (.int r)) σ') σ 25 [(0, rf V 66), (1, .int v1)] []) (σ : Sg) (v1 : Int32) (hf : f_Md_readsRopes_88 k25 σ v1 = some (r, σ')) : J V X (k2_rm 2 47) c_Md_readsRopes R_Md 2 (some .int) (Qr V X (some (.int r)) σ') σ 88 [(0, rf V 66), (1, .int v1)] [] := by
  unfold f_Md_readsRopes_88 at hf
  refine J_aload_n (pc' := 89) d_Md_readsRopes_88 rfl 0 rfl ?_
  refine J_dup (pc' := 90) d_Md_readsRopes_89 rfl rfl ?_
  refine J_getI (pc' := 93) d_Md_readsRopes_90 rfl sh_66 fl_Md_111 rfl ?_
  refine J_iload_n (pc' := 94) d_Md_readsRopes_93 rfl 1 rfl ?_
  refine J_if_eq (pc' := 97) (tgt := 101) d_Md_readsRopes_94 rfl (by decide) (fun hc9 => ?_) (fun hc9 => ?_)
  · have hf := brT hc9 hf
    refine J_iconst (pc' := 102) (v := 0) d_Md_readsRopes_101 rfl ic_0 ?_
    exact j_Md_readsRopes_102 hk25 _ _ _ _ hf
  · have hf := brF hc9 hf
    refine J_iconst (pc' := 98) (v := 1) d_Md_readsRopes_97 rfl ic_1 ?_
    refine J_goto (tgt := 102) d_Md_readsRopes_98 (by decide) ?_
    exact j_Md_readsRopes_102 hk25 _ _ _ _ hf
def f_Md_readsRopes_64 (k25 : Sg → Int32 → Option (Int32 × Sg)) (σ : Sg) (s0 : Int32) : Option (Int32 × Sg) :=
  if s0 = 0 then
    f_Md_readsRopes_88 k25 σ s0
  else
    (f_Md_here σ).bind fun r11 =>
      if r11 = 59 then f_Md_readsRopes_88 k25 σ s0 else some ((pI σ 66 8 0).1 66 7, (pI σ 66 8 0))
set_option maxHeartbeats 4000000 in
theorem j_Md_readsRopes_64 {V : Vx} {X : Xx} {r : Int32} {σ' : Sg} {k25 : Sg → Int32 → Option (Int32 × Sg)} (hk25 : ∀ (σ : Sg) (v1 : Int32), k25 σ v1 = some (r, σ') → J V X (k2_rm 2 47) c_Md_readsRopes R_Md 2 (some .int) (Qr V X (some (.int r)) σ') σ 25 [(0, rf V 66), (1, .int v1)] []) (σ : Sg) (s0 : Int32) (hf : f_Md_readsRopes_64 k25 σ s0 = some (r, σ')) : J V X (k2_rm 2 47) c_Md_readsRopes R_Md 2 (some .int) (Qr V X (some (.int r)) σ') σ 64 [(0, rf V 66)] [.int s0] := by
  unfold f_Md_readsRopes_64 at hf
  refine J_istore_n (pc' := 65) (lv' := [(1, .int s0), (0, rf V 66)]) d_Md_readsRopes_64 rfl rfl (by decide) rfl ?_
  refine J_iload_n (pc' := 66) d_Md_readsRopes_65 rfl 0 rfl ?_
  refine J_if_eq (pc' := 69) (tgt := 88) d_Md_readsRopes_66 rfl (by decide) (fun hc8 => ?_) (fun hc8 => ?_)
  · have hf := brT hc8 hf
    refine J_pick [1, 0] rfl ?_
    exact j_Md_readsRopes_88 hk25 _ _ hf
  · have hf := brF hc8 hf
    refine J_aload_n (pc' := 70) d_Md_readsRopes_69 rfl 1 rfl ?_
    obtain ⟨r11, hq10, hf⟩ := bpE hf
    refine J_V (pc' := 73) (as := []) (rest := []) (st' := [.int r11]) d_Md_readsRopes_70 rfl sh_66 rfl mv_Md_117 (ct_Md_here V _ σ hq10) rfl rfl ⟨Nat.le_of_ble_eq_true rfl, Nat.le_of_ble_eq_true rfl⟩ ⟨rfl, rfl⟩ (Nat.le_of_ble_eq_true rfl) rfl ?_
    refine J_bipush (pc' := 75) (v := 59) d_Md_readsRopes_73 rfl bc_59 ?_
    refine J_icmp_eq (pc' := 78) (tgt := 88) d_Md_readsRopes_75 rfl (by decide) (fun hc12 => ?_) (fun hc12 => ?_)
    · have hf := brT hc12 hf
      refine J_pick [1, 0] rfl ?_
      exact j_Md_readsRopes_88 hk25 _ _ hf
    · have hf := brF hc12 hf
      refine J_aload_n (pc' := 79) d_Md_readsRopes_78 rfl 1 rfl ?_
      refine J_iconst (pc' := 80) (v := 0) d_Md_readsRopes_79 rfl ic_0 ?_
      refine J_putI (pc' := 83) d_Md_readsRopes_80 rfl sh_66 fp_Md_114 rfl ?_
      refine J_aload_n (pc' := 84) d_Md_readsRopes_83 rfl 1 rfl ?_
      refine J_getI (pc' := 87) d_Md_readsRopes_84 rfl sh_66 fl_Md_111 rfl ?_
      obtain ⟨rfl, rfl⟩ := resE hf
      exact J_iret d_Md_readsRopes_87
def f_Md_readsRopes_25 : Nat → Sg → Int32 → Option (Int32 × Sg)
  | 0, _, _ => none
  | n + 1, σ, v1 =>
    if v1 = 0 then
      some ((-1), σ)
    else
      bd (f_Md_readsRope σ) fun r5 σ4 =>
        if r5 = 0 then
          some ((pI σ4 66 8 0).1 66 7, (pI σ4 66 8 0))
        else
          if (σ4.1 72 0) ≤ (σ4.1 66 7) then f_Md_readsRopes_64 (f_Md_readsRopes_25 n) σ4 0 else f_Md_readsRopes_64 (f_Md_readsRopes_25 n) σ4 1
theorem f_Md_readsRopes_25_s (n : Nat) (σ : Sg) (v1 : Int32) : f_Md_readsRopes_25 (n + 1) σ v1 =
    if v1 = 0 then
      some ((-1), σ)
    else
      bd (f_Md_readsRope σ) fun r5 σ4 =>
        if r5 = 0 then
          some ((pI σ4 66 8 0).1 66 7, (pI σ4 66 8 0))
        else
          if (σ4.1 72 0) ≤ (σ4.1 66 7) then f_Md_readsRopes_64 (f_Md_readsRopes_25 n) σ4 0 else f_Md_readsRopes_64 (f_Md_readsRopes_25 n) σ4 1 := rfl
set_option maxHeartbeats 4000000 in
theorem j_Md_readsRopes_25 {V : Vx} {X : Xx} {r : Int32} {σ' : Sg}  : ∀ (n : Nat) (σ : Sg) (v1 : Int32), f_Md_readsRopes_25 n σ v1 = some (r, σ') → J V X (k2_rm 2 47) c_Md_readsRopes R_Md 2 (some .int) (Qr V X (some (.int r)) σ') σ 25 [(0, rf V 66), (1, .int v1)] [] := by
  intro n
  induction n with
  | zero => intro σ v1 hf; exact nn hf
  | succ n ih =>
    intro σ v1 hf
    rw [f_Md_readsRopes_25_s] at hf
    refine J_iload_n (pc' := 26) d_Md_readsRopes_25 rfl 1 rfl ?_
    refine J_if_eq (pc' := 29) (tgt := 109) d_Md_readsRopes_26 rfl (by decide) (fun hc2 => ?_) (fun hc2 => ?_)
    · have hf := brT hc2 hf
      refine J_iconst (pc' := 110) (v := (-1)) d_Md_readsRopes_109 rfl ic_m1 ?_
      obtain ⟨rfl, rfl⟩ := resE hf
      exact J_iret d_Md_readsRopes_110
    · have hf := brF hc2 hf
      refine J_aload_n (pc' := 30) d_Md_readsRopes_29 rfl 0 rfl ?_
      obtain ⟨r5, σ4, hq3, hf⟩ := bdE hf
      refine J_V (pc' := 33) (as := []) (rest := []) (st' := [.int r5]) d_Md_readsRopes_30 rfl sh_66 rfl mv_Md_124 (ct_Md_readsRope V _ σ hq3) rfl rfl ⟨Nat.le_of_ble_eq_true rfl, Nat.le_of_ble_eq_true rfl⟩ ⟨rfl, rfl⟩ (Nat.le_of_ble_eq_true rfl) rfl ?_
      refine J_if_ne (pc' := 36) (tgt := 46) d_Md_readsRopes_33 rfl (by decide) (fun hc6 => ?_) (fun hc6 => ?_)
      · have hf := brF hc6 hf
        refine J_aload_n (pc' := 47) d_Md_readsRopes_46 rfl 0 rfl ?_
        refine J_getI (pc' := 50) d_Md_readsRopes_47 rfl sh_66 fl_Md_111 rfl ?_
        refine J_aload_n (pc' := 51) d_Md_readsRopes_50 rfl 0 rfl ?_
        refine J_getR (pc' := 54) d_Md_readsRopes_51 rfl sh_66 fl_Md_25 rfl ?_
        refine J_iconst (pc' := 55) (v := 0) d_Md_readsRopes_54 rfl ic_0 ?_
        refine J_ial (pc' := 56) d_Md_readsRopes_55 rfl sh_72 (vin_c (by decide)) ?_
        refine J_icmp_ge (pc' := 59) (tgt := 63) d_Md_readsRopes_56 rfl (by decide) (fun hc7 => ?_) (fun hc7 => ?_)
        · have hf := brT hc7 hf
          refine J_iconst (pc' := 64) (v := 0) d_Md_readsRopes_63 rfl ic_0 ?_
          refine J_pick [0] rfl ?_
          exact j_Md_readsRopes_64 ih _ _ hf
        · have hf := brF hc7 hf
          refine J_iconst (pc' := 60) (v := 1) d_Md_readsRopes_59 rfl ic_1 ?_
          refine J_goto (tgt := 64) d_Md_readsRopes_60 (by decide) ?_
          refine J_pick [0] rfl ?_
          exact j_Md_readsRopes_64 ih _ _ hf
      · have hf := brT hc6 hf
        refine J_aload_n (pc' := 37) d_Md_readsRopes_36 rfl 0 rfl ?_
        refine J_iconst (pc' := 38) (v := 0) d_Md_readsRopes_37 rfl ic_0 ?_
        refine J_putI (pc' := 41) d_Md_readsRopes_38 rfl sh_66 fp_Md_114 rfl ?_
        refine J_aload_n (pc' := 42) d_Md_readsRopes_41 rfl 0 rfl ?_
        refine J_getI (pc' := 45) d_Md_readsRopes_42 rfl sh_66 fl_Md_111 rfl ?_
        obtain ⟨rfl, rfl⟩ := resE hf
        exact J_iret d_Md_readsRopes_45
def f_Md_readsRopes_24 (σ : Sg) (s0 : Int32) : Option (Int32 × Sg) :=
  f_Md_readsRopes_25 FU σ s0
set_option maxHeartbeats 4000000 in
theorem j_Md_readsRopes_24 {V : Vx} {X : Xx} {r : Int32} {σ' : Sg}  (σ : Sg) (s0 : Int32) (hf : f_Md_readsRopes_24 σ s0 = some (r, σ')) : J V X (k2_rm 2 47) c_Md_readsRopes R_Md 2 (some .int) (Qr V X (some (.int r)) σ') σ 24 [(0, rf V 66)] [.int s0] := by
  unfold f_Md_readsRopes_24 at hf
  refine J_istore_n (pc' := 25) (lv' := [(1, .int s0), (0, rf V 66)]) d_Md_readsRopes_24 rfl rfl (by decide) rfl ?_
  refine J_pick [1, 0] rfl ?_
  exact j_Md_readsRopes_25 FU _ _ hf
def f_Md_readsRopes (σ : Sg)  : Option (Int32 × Sg) :=
  if ((pI (pI σ 66 7 0) 66 8 0).1 72 0) ≤ 0 then f_Md_readsRopes_24 (pI (pI σ 66 7 0) 66 8 0) 0 else f_Md_readsRopes_24 (pI (pI σ 66 7 0) 66 8 0) 1
set_option maxHeartbeats 4000000 in
theorem j_Md_readsRopes {V : Vx} {X : Xx} {r : Int32} {σ' : Sg} (σ : Sg) (hf : f_Md_readsRopes σ = some (r, σ')) : J V X (k2_rm 2 47) c_Md_readsRopes R_Md 2 (some .int) (Qr V X (some (.int r)) σ') σ 0 [(0, rf V 66)] [] := by
  unfold f_Md_readsRopes at hf
  refine J_aload_n (pc' := 1) d_Md_readsRopes_0 rfl 0 rfl ?_
  refine J_iconst (pc' := 2) (v := 0) d_Md_readsRopes_1 rfl ic_0 ?_
  refine J_putI (pc' := 5) d_Md_readsRopes_2 rfl sh_66 fp_Md_111 rfl ?_
  refine J_aload_n (pc' := 6) d_Md_readsRopes_5 rfl 0 rfl ?_
  refine J_iconst (pc' := 7) (v := 0) d_Md_readsRopes_6 rfl ic_0 ?_
  refine J_putI (pc' := 10) d_Md_readsRopes_7 rfl sh_66 fp_Md_114 rfl ?_
  refine J_aload_n (pc' := 11) d_Md_readsRopes_10 rfl 0 rfl ?_
  refine J_getR (pc' := 14) d_Md_readsRopes_11 rfl sh_66 fl_Md_25 rfl ?_
  refine J_iconst (pc' := 15) (v := 0) d_Md_readsRopes_14 rfl ic_0 ?_
  refine J_ial (pc' := 16) d_Md_readsRopes_15 rfl sh_72 (vin_c (by decide)) ?_
  refine J_if_le (pc' := 19) (tgt := 23) d_Md_readsRopes_16 rfl (by decide) (fun hc1 => ?_) (fun hc1 => ?_)
  · have hf := brT hc1 hf
    refine J_iconst (pc' := 24) (v := 0) d_Md_readsRopes_23 rfl ic_0 ?_
    exact j_Md_readsRopes_24 _ _ hf
  · have hf := brF hc1 hf
    refine J_iconst (pc' := 20) (v := 1) d_Md_readsRopes_19 rfl ic_1 ?_
    refine J_goto (tgt := 24) d_Md_readsRopes_20 (by decide) ?_
    exact j_Md_readsRopes_24 _ _ hf
theorem ct_Md_readsRopes (V : Vx) (l : Launch) (σ : Sg) {r : Int32} {σ' : Sg} (hf : f_Md_readsRopes σ = some (r, σ')) : Ct V l y_Md_readsRopes c_Md_readsRopes 2 (some .int) (k2_rm 2 47) [rf V 66] σ (some (.int r)) σ' := Ct.ofJ (by decide +kernel) (Nat.le_of_ble_eq_true rfl) fun X _ => j_Md_readsRopes _  hf
def f_Md_isRope (σ : Sg) (v1 : Int32) : Int32 :=
  zb (f_Md_in v1.toInt64 0 (((σ.1 66 8) - 1).toInt64))
set_option maxHeartbeats 4000000 in
theorem j_Md_isRope {V : Vx} {X : Xx} {r : Int32} (σ : Sg) (v1 : Int32) (hf : f_Md_isRope σ v1 = r) : J V X (k2_rm 1 25) c_Md_isRope R_Md 2 (some .boolean) (Qr V X (some (.int r)) σ) σ 0 [(0, rf V 66), (1, .int v1)] [] := by
  unfold f_Md_isRope at hf
  refine J_iload_n (pc' := 1) d_Md_isRope_0 rfl 1 rfl ?_
  refine J_i2l (pc' := 2) d_Md_isRope_1 rfl ?_
  refine J_lconst (pc' := 3) (v := 0) d_Md_isRope_2 rfl lc_0 ?_
  refine J_aload_n (pc' := 4) d_Md_isRope_3 rfl 0 rfl ?_
  refine J_getI (pc' := 7) d_Md_isRope_4 rfl sh_66 fl_Md_114 rfl ?_
  refine J_iconst (pc' := 8) (v := 1) d_Md_isRope_7 rfl ic_1 ?_
  refine J_isub (pc' := 9) d_Md_isRope_8 rfl ?_
  refine J_i2l (pc' := 10) d_Md_isRope_9 rfl ?_
  refine J_S (pc' := 13) (as := [.long v1.toInt64, .long 0, .long (((σ.1 66 8) - 1).toInt64)]) (rest := []) (st' := [.int (f_Md_in v1.toInt64 0 (((σ.1 66 8) - 1).toInt64))]) d_Md_isRope_10 rfl ms_Md_73 (ct_Md_in V _ σ v1.toInt64 0 (((σ.1 66 8) - 1).toInt64)) rfl rfl ⟨Nat.le_of_ble_eq_true rfl, Nat.le_of_ble_eq_true rfl⟩ ⟨rfl, rfl⟩ (Nat.le_of_ble_eq_true rfl) rfl ?_
  subst hf
  exact J_zretG d_Md_isRope_13
theorem ct_Md_isRope (V : Vx) (l : Launch) (σ : Sg) (v1 : Int32) : Ct V l y_Md_isRope c_Md_isRope 2 (some .boolean) (k2_rm 1 25) [rf V 66, .int v1] σ (some (.int (f_Md_isRope σ v1))) σ := Ct.ofJ (by decide +kernel) (Nat.le_of_ble_eq_true rfl) fun X _ => j_Md_isRope _ v1 rfl
def f_Md_readsRight_23 : Nat → Sg → Int32 → Option (Int32 × Sg)
  | 0, _, _ => none
  | n + 1, σ, v1 =>
    if (σ.1 72 1) ≤ v1 then
      some ((-1), σ)
    else
      gd (vin (60 + v1) 70) (
        if (f_Md_isRope σ ((σ.1 71 (60 + v1).toNatClampNeg) - 48)) = 0 then
          some (v1, σ)
        else
          gd (vin ((σ.1 71 (60 + v1).toNatClampNeg) - 48) 8) (
            if (σ.1 74 ((σ.1 71 (60 + v1).toNatClampNeg) - 48).toNatClampNeg) = (-1) then
              gd (vin ((σ.1 71 (60 + v1).toNatClampNeg) - 48) 8) (
                f_Md_readsRight_23 n (pI σ 74 ((σ.1 71 (60 + v1).toNatClampNeg) - 48).toNatClampNeg v1) (v1 + 1))
            else
              some (v1, σ)))
theorem f_Md_readsRight_23_s (n : Nat) (σ : Sg) (v1 : Int32) : f_Md_readsRight_23 (n + 1) σ v1 =
    if (σ.1 72 1) ≤ v1 then
      some ((-1), σ)
    else
      gd (vin (60 + v1) 70) (
        if (f_Md_isRope σ ((σ.1 71 (60 + v1).toNatClampNeg) - 48)) = 0 then
          some (v1, σ)
        else
          gd (vin ((σ.1 71 (60 + v1).toNatClampNeg) - 48) 8) (
            if (σ.1 74 ((σ.1 71 (60 + v1).toNatClampNeg) - 48).toNatClampNeg) = (-1) then
              gd (vin ((σ.1 71 (60 + v1).toNatClampNeg) - 48) 8) (
                f_Md_readsRight_23 n (pI σ 74 ((σ.1 71 (60 + v1).toNatClampNeg) - 48).toNatClampNeg v1) (v1 + 1))
            else
              some (v1, σ))) := rfl
set_option maxHeartbeats 4000000 in
theorem j_Md_readsRight_23 {V : Vx} {X : Xx} {r : Int32} {σ' : Sg}  : ∀ (n : Nat) (σ : Sg) (v1 : Int32), f_Md_readsRight_23 n σ v1 = some (r, σ') → J V X (k2_rm 2 46) c_Md_readsRight R_Md 3 (some .int) (Qr V X (some (.int r)) σ') σ 23 [(0, rf V 66), (1, .int v1)] [] := by
  intro n
  induction n with
  | zero => intro σ v1 hf; exact nn hf
  | succ n ih =>
    intro σ v1 hf
    rw [f_Md_readsRight_23_s] at hf
    refine J_iload_n (pc' := 24) d_Md_readsRight_23 rfl 1 rfl ?_
    refine J_aload_n (pc' := 25) d_Md_readsRight_24 rfl 0 rfl ?_
    refine J_getR (pc' := 28) d_Md_readsRight_25 rfl sh_66 fl_Md_25 rfl ?_
    refine J_iconst (pc' := 29) (v := 1) d_Md_readsRight_28 rfl ic_1 ?_
    refine J_ial (pc' := 30) d_Md_readsRight_29 rfl sh_72 (vin_c (by decide)) ?_
    refine J_icmp_ge (pc' := 33) (tgt := 79) d_Md_readsRight_30 rfl (by decide) (fun hc2 => ?_) (fun hc2 => ?_)
    · have hf := brT hc2 hf
      refine J_iconst (pc' := 80) (v := (-1)) d_Md_readsRight_79 rfl ic_m1 ?_
      obtain ⟨rfl, rfl⟩ := resE hf
      exact J_iret d_Md_readsRight_80
    · have hf := brF hc2 hf
      refine J_aload_n (pc' := 34) d_Md_readsRight_33 rfl 0 rfl ?_
      refine J_getR (pc' := 37) d_Md_readsRight_34 rfl sh_66 fl_Md_22 rfl ?_
      refine J_bipush (pc' := 39) (v := 60) d_Md_readsRight_37 rfl bc_60 ?_
      refine J_iload_n (pc' := 40) d_Md_readsRight_39 rfl 1 rfl ?_
      refine J_iadd (pc' := 41) d_Md_readsRight_40 rfl ?_
      obtain ⟨hg3, hf⟩ := gdE hf
      refine J_ial (pc' := 42) d_Md_readsRight_41 rfl sh_71 (vinP hg3) ?_
      refine J_bipush (pc' := 44) (v := 48) d_Md_readsRight_42 rfl bc_48 ?_
      refine J_isub (pc' := 45) d_Md_readsRight_44 rfl ?_
      refine J_istore_n (pc' := 46) (lv' := [(2, .int ((σ.1 71 (60 + v1).toNatClampNeg) - 48)), (0, rf V 66), (1, .int v1)]) d_Md_readsRight_45 rfl rfl (by decide) rfl ?_
      refine J_aload_n (pc' := 47) d_Md_readsRight_46 rfl 1 rfl ?_
      refine J_iload_n (pc' := 48) d_Md_readsRight_47 rfl 0 rfl ?_
      refine J_V (pc' := 51) (as := [.int ((σ.1 71 (60 + v1).toNatClampNeg) - 48)]) (rest := []) (st' := [.int (f_Md_isRope σ ((σ.1 71 (60 + v1).toNatClampNeg) - 48))]) d_Md_readsRight_48 rfl sh_66 rfl mv_Md_128 (ct_Md_isRope V _ σ ((σ.1 71 (60 + v1).toNatClampNeg) - 48)) rfl rfl ⟨Nat.le_of_ble_eq_true rfl, Nat.le_of_ble_eq_true rfl⟩ ⟨rfl, rfl⟩ (Nat.le_of_ble_eq_true rfl) rfl ?_
      refine J_if_eq (pc' := 54) (tgt := 64) d_Md_readsRight_51 rfl (by decide) (fun hc4 => ?_) (fun hc4 => ?_)
      · have hf := brT hc4 hf
        refine J_iload_n (pc' := 65) d_Md_readsRight_64 rfl 2 rfl ?_
        obtain ⟨rfl, rfl⟩ := resE hf
        exact J_iret d_Md_readsRight_65
      · have hf := brF hc4 hf
        refine J_aload_n (pc' := 55) d_Md_readsRight_54 rfl 1 rfl ?_
        refine J_getR (pc' := 58) d_Md_readsRight_55 rfl sh_66 fl_Md_31 rfl ?_
        refine J_iload_n (pc' := 59) d_Md_readsRight_58 rfl 0 rfl ?_
        obtain ⟨hg5, hf⟩ := gdE hf
        refine J_ial (pc' := 60) d_Md_readsRight_59 rfl sh_74 (vinP hg5) ?_
        refine J_iconst (pc' := 61) (v := (-1)) d_Md_readsRight_60 rfl ic_m1 ?_
        refine J_icmp_eq (pc' := 64) (tgt := 66) d_Md_readsRight_61 rfl (by decide) (fun hc6 => ?_) (fun hc6 => ?_)
        · have hf := brT hc6 hf
          refine J_aload_n (pc' := 67) d_Md_readsRight_66 rfl 1 rfl ?_
          refine J_getR (pc' := 70) d_Md_readsRight_67 rfl sh_66 fl_Md_31 rfl ?_
          refine J_iload_n (pc' := 71) d_Md_readsRight_70 rfl 0 rfl ?_
          refine J_iload_n (pc' := 72) d_Md_readsRight_71 rfl 2 rfl ?_
          obtain ⟨hg7, hf⟩ := gdE hf
          refine J_ias (pc' := 73) d_Md_readsRight_72 rfl sh_74 (vinP hg7) ?_
          refine J_iinc (pc' := 76) (j := 2) (v := 1) (lv' := [(1, .int (v1 + 1)), (2, .int ((σ.1 71 (60 + v1).toNatClampNeg) - 48)), (0, rf V 66)]) d_Md_readsRight_73 rfl rfl ic_1 (by decide) rfl ?_
          refine J_goto (tgt := 23) d_Md_readsRight_76 (by decide) ?_
          refine J_pick [2, 0] rfl ?_
          exact ih _ _ hf
        · have hf := brF hc6 hf
          refine J_iload_n (pc' := 65) d_Md_readsRight_64 rfl 2 rfl ?_
          obtain ⟨rfl, rfl⟩ := resE hf
          exact J_iret d_Md_readsRight_65
def f_Md_readsRight_2 : Nat → Sg → Int32 → Option (Int32 × Sg)
  | 0, _, _ => none
  | n + 1, σ, v1 =>
    if 8 ≤ v1 then
      f_Md_readsRight_23 FU σ 0
    else
      gd (vin v1 8) (
        f_Md_readsRight_2 n (pI σ 74 v1.toNatClampNeg (-1)) (v1 + 1))
theorem f_Md_readsRight_2_s (n : Nat) (σ : Sg) (v1 : Int32) : f_Md_readsRight_2 (n + 1) σ v1 =
    if 8 ≤ v1 then
      f_Md_readsRight_23 FU σ 0
    else
      gd (vin v1 8) (
        f_Md_readsRight_2 n (pI σ 74 v1.toNatClampNeg (-1)) (v1 + 1)) := rfl
set_option maxHeartbeats 4000000 in
theorem j_Md_readsRight_2 {V : Vx} {X : Xx} {r : Int32} {σ' : Sg}  : ∀ (n : Nat) (σ : Sg) (v1 : Int32), f_Md_readsRight_2 n σ v1 = some (r, σ') → J V X (k2_rm 2 46) c_Md_readsRight R_Md 3 (some .int) (Qr V X (some (.int r)) σ') σ 2 [(0, rf V 66), (1, .int v1)] [] := by
  intro n
  induction n with
  | zero => intro σ v1 hf; exact nn hf
  | succ n ih =>
    intro σ v1 hf
    rw [f_Md_readsRight_2_s] at hf
    refine J_iload_n (pc' := 3) d_Md_readsRight_2 rfl 1 rfl ?_
    refine J_bipush (pc' := 5) (v := 8) d_Md_readsRight_3 rfl bc_8 ?_
    refine J_icmp_ge (pc' := 8) (tgt := 21) d_Md_readsRight_5 rfl (by decide) (fun hc1 => ?_) (fun hc1 => ?_)
    · have hf := brT hc1 hf
      refine J_iconst (pc' := 22) (v := 0) d_Md_readsRight_21 rfl ic_0 ?_
      refine J_istore_n (pc' := 23) (lv' := [(1, .int 0), (0, rf V 66)]) d_Md_readsRight_22 rfl rfl (by decide) rfl ?_
      refine J_pick [1, 0] rfl ?_
      exact j_Md_readsRight_23 FU _ _ hf
    · have hf := brF hc1 hf
      refine J_aload_n (pc' := 9) d_Md_readsRight_8 rfl 0 rfl ?_
      refine J_getR (pc' := 12) d_Md_readsRight_9 rfl sh_66 fl_Md_31 rfl ?_
      refine J_iload_n (pc' := 13) d_Md_readsRight_12 rfl 1 rfl ?_
      refine J_iconst (pc' := 14) (v := (-1)) d_Md_readsRight_13 rfl ic_m1 ?_
      obtain ⟨hg8, hf⟩ := gdE hf
      refine J_ias (pc' := 15) d_Md_readsRight_14 rfl sh_74 (vinP hg8) ?_
      refine J_iinc (pc' := 18) (j := 1) (v := 1) (lv' := [(1, .int (v1 + 1)), (0, rf V 66)]) d_Md_readsRight_15 rfl rfl ic_1 (by decide) rfl ?_
      refine J_goto (tgt := 2) d_Md_readsRight_18 (by decide) ?_
      refine J_pick [1, 0] rfl ?_
      exact ih _ _ hf
def f_Md_readsRight (σ : Sg)  : Option (Int32 × Sg) :=
  f_Md_readsRight_2 FU σ 0
set_option maxHeartbeats 4000000 in
theorem j_Md_readsRight {V : Vx} {X : Xx} {r : Int32} {σ' : Sg} (σ : Sg) (hf : f_Md_readsRight σ = some (r, σ')) : J V X (k2_rm 2 46) c_Md_readsRight R_Md 3 (some .int) (Qr V X (some (.int r)) σ') σ 0 [(0, rf V 66)] [] := by
  unfold f_Md_readsRight at hf
  refine J_iconst (pc' := 1) (v := 0) d_Md_readsRight_0 rfl ic_0 ?_
  refine J_istore_n (pc' := 2) (lv' := [(1, .int 0), (0, rf V 66)]) d_Md_readsRight_1 rfl rfl (by decide) rfl ?_
  refine J_pick [1, 0] rfl ?_
  exact j_Md_readsRight_2 FU _ _ hf
theorem ct_Md_readsRight (V : Vx) (l : Launch) (σ : Sg) {r : Int32} {σ' : Sg} (hf : f_Md_readsRight σ = some (r, σ')) : Ct V l y_Md_readsRight c_Md_readsRight 3 (some .int) (k2_rm 2 46) [rf V 66] σ (some (.int r)) σ' := Ct.ofJ (by decide +kernel) (Nat.le_of_ble_eq_true rfl) fun X _ => j_Md_readsRight _  hf
def f_Md_find_69 (k28 : Sg → Int32 → Int32 → Int32 → Option (Int32 × Sg)) (σ : Sg) (v1 : Int32) (v2 : Int32) (v3 : Int32) : Option (Int32 × Sg) :=
  k28 σ v1 v2 (v3 + 1)
set_option maxHeartbeats 4000000 in
theorem j_Md_find_69 {V : Vx} {X : Xx} {r : Int32} {σ' : Sg} {k28 : Sg → Int32 → Int32 → Int32 → Option (Int32 × Sg)} (hk28 : ∀ (σ : Sg) (v1 : Int32) (v2 : Int32) (v3 : Int32), k28 σ v1 v2 v3 = some (r, σ') → J V X (k2_rm 3 68) c_Md_find R_Md 4 (some .int) (Qr V X (some (.int r)) σ') σ 28 [(0, rf V 66), (1, .int v1), (2, .int v2), (3, .int v3)] []) (σ : Sg) (v1 : Int32) (v2 : Int32) (v3 : Int32) (hf : f_Md_find_69 k28 σ v1 v2 v3 = some (r, σ')) : J V X (k2_rm 3 68) c_Md_find R_Md 4 (some .int) (Qr V X (some (.int r)) σ') σ 69 [(0, rf V 66), (1, .int v1), (2, .int v2), (3, .int v3)] [] := by
  unfold f_Md_find_69 at hf
  refine J_iinc (pc' := 72) (j := 3) (v := 1) (lv' := [(3, .int (v3 + 1)), (0, rf V 66), (1, .int v1), (2, .int v2)]) d_Md_find_69 rfl rfl ic_1 (by decide) rfl ?_
  refine J_goto (tgt := 28) d_Md_find_72 (by decide) ?_
  refine J_pick [1, 2, 3, 0] rfl ?_
  exact hk28 _ _ _ _ hf
def f_Md_find_28 : Nat → Sg → Int32 → Int32 → Int32 → Option (Int32 × Sg)
  | 0, _, _, _, _ => none
  | n + 1, σ, v1, v2, v3 =>
    if 8 ≤ v3 then
      some (v1, σ)
    else
      if v1 = (-1) then
        gd (vin v3 8) (
          if (σ.1 74 v3.toNatClampNeg) = (-1) then
            gd (vin v3 8) (
              f_Md_find_69 (f_Md_find_28 n) (pI σ 74 v3.toNatClampNeg v2) v1 (v2 + 1) v3)
          else
            f_Md_find_69 (f_Md_find_28 n) σ v1 v2 v3)
      else
        gd (vin v3 8) (
          f_Md_find_69 (f_Md_find_28 n) (pI σ 74 v3.toNatClampNeg v3) v1 v2 v3)
theorem f_Md_find_28_s (n : Nat) (σ : Sg) (v1 : Int32) (v2 : Int32) (v3 : Int32) : f_Md_find_28 (n + 1) σ v1 v2 v3 =
    if 8 ≤ v3 then
      some (v1, σ)
    else
      if v1 = (-1) then
        gd (vin v3 8) (
          if (σ.1 74 v3.toNatClampNeg) = (-1) then
            gd (vin v3 8) (
              f_Md_find_69 (f_Md_find_28 n) (pI σ 74 v3.toNatClampNeg v2) v1 (v2 + 1) v3)
          else
            f_Md_find_69 (f_Md_find_28 n) σ v1 v2 v3)
      else
        gd (vin v3 8) (
          f_Md_find_69 (f_Md_find_28 n) (pI σ 74 v3.toNatClampNeg v3) v1 v2 v3) := rfl
set_option maxHeartbeats 4000000 in
theorem j_Md_find_28 {V : Vx} {X : Xx} {r : Int32} {σ' : Sg}  : ∀ (n : Nat) (σ : Sg) (v1 : Int32) (v2 : Int32) (v3 : Int32), f_Md_find_28 n σ v1 v2 v3 = some (r, σ') → J V X (k2_rm 3 68) c_Md_find R_Md 4 (some .int) (Qr V X (some (.int r)) σ') σ 28 [(0, rf V 66), (1, .int v1), (2, .int v2), (3, .int v3)] [] := by
  intro n
  induction n with
  | zero => intro σ v1 v2 v3 hf; exact nn hf
  | succ n ih =>
    intro σ v1 v2 v3 hf
    rw [f_Md_find_28_s] at hf
    refine J_iload_n (pc' := 29) d_Md_find_28 rfl 3 rfl ?_
    refine J_bipush (pc' := 31) (v := 8) d_Md_find_29 rfl bc_8 ?_
    refine J_icmp_ge (pc' := 34) (tgt := 75) d_Md_find_31 rfl (by decide) (fun hc8 => ?_) (fun hc8 => ?_)
    · have hf := brT hc8 hf
      refine J_iload_n (pc' := 76) d_Md_find_75 rfl 1 rfl ?_
      obtain ⟨rfl, rfl⟩ := resE hf
      exact J_iret d_Md_find_76
    · have hf := brF hc8 hf
      refine J_iload_n (pc' := 35) d_Md_find_34 rfl 1 rfl ?_
      refine J_iconst (pc' := 36) (v := (-1)) d_Md_find_35 rfl ic_m1 ?_
      refine J_icmp_eq (pc' := 39) (tgt := 49) d_Md_find_36 rfl (by decide) (fun hc9 => ?_) (fun hc9 => ?_)
      · have hf := brT hc9 hf
        refine J_aload_n (pc' := 50) d_Md_find_49 rfl 0 rfl ?_
        refine J_getR (pc' := 53) d_Md_find_50 rfl sh_66 fl_Md_31 rfl ?_
        refine J_iload_n (pc' := 54) d_Md_find_53 rfl 3 rfl ?_
        obtain ⟨hg10, hf⟩ := gdE hf
        refine J_ial (pc' := 55) d_Md_find_54 rfl sh_74 (vinP hg10) ?_
        refine J_iconst (pc' := 56) (v := (-1)) d_Md_find_55 rfl ic_m1 ?_
        refine J_icmp_ne (pc' := 59) (tgt := 69) d_Md_find_56 rfl (by decide) (fun hc11 => ?_) (fun hc11 => ?_)
        · have hf := brF hc11 hf
          exact j_Md_find_69 ih _ _ _ _ hf
        · have hf := brT hc11 hf
          refine J_aload_n (pc' := 60) d_Md_find_59 rfl 0 rfl ?_
          refine J_getR (pc' := 63) d_Md_find_60 rfl sh_66 fl_Md_31 rfl ?_
          refine J_iload_n (pc' := 64) d_Md_find_63 rfl 3 rfl ?_
          refine J_iload_n (pc' := 65) d_Md_find_64 rfl 2 rfl ?_
          obtain ⟨hg12, hf⟩ := gdE hf
          refine J_ias (pc' := 66) d_Md_find_65 rfl sh_74 (vinP hg12) ?_
          refine J_iinc (pc' := 69) (j := 2) (v := 1) (lv' := [(2, .int (v2 + 1)), (0, rf V 66), (1, .int v1), (3, .int v3)]) d_Md_find_66 rfl rfl ic_1 (by decide) rfl ?_
          refine J_pick [1, 2, 0, 3] rfl ?_
          exact j_Md_find_69 ih _ _ _ _ hf
      · have hf := brF hc9 hf
        refine J_aload_n (pc' := 40) d_Md_find_39 rfl 0 rfl ?_
        refine J_getR (pc' := 43) d_Md_find_40 rfl sh_66 fl_Md_31 rfl ?_
        refine J_iload_n (pc' := 44) d_Md_find_43 rfl 3 rfl ?_
        refine J_iload_n (pc' := 45) d_Md_find_44 rfl 3 rfl ?_
        obtain ⟨hg13, hf⟩ := gdE hf
        refine J_ias (pc' := 46) d_Md_find_45 rfl sh_74 (vinP hg13) ?_
        refine J_goto (tgt := 69) d_Md_find_46 (by decide) ?_
        exact j_Md_find_69 ih _ _ _ _ hf
def f_Md_find_25 (σ : Sg) (v1 : Int32) (s0 : Int32) : Option (Int32 × Sg) :=
  f_Md_find_28 FU σ v1 s0 0
set_option maxHeartbeats 4000000 in
theorem j_Md_find_25 {V : Vx} {X : Xx} {r : Int32} {σ' : Sg}  (σ : Sg) (v1 : Int32) (s0 : Int32) (hf : f_Md_find_25 σ v1 s0 = some (r, σ')) : J V X (k2_rm 3 68) c_Md_find R_Md 4 (some .int) (Qr V X (some (.int r)) σ') σ 25 [(0, rf V 66), (1, .int v1)] [.int s0] := by
  unfold f_Md_find_25 at hf
  refine J_istore_n (pc' := 26) (lv' := [(2, .int s0), (0, rf V 66), (1, .int v1)]) d_Md_find_25 rfl rfl (by decide) rfl ?_
  refine J_iconst (pc' := 27) (v := 0) d_Md_find_26 rfl ic_0 ?_
  refine J_istore_n (pc' := 28) (lv' := [(3, .int 0), (2, .int s0), (0, rf V 66), (1, .int v1)]) d_Md_find_27 rfl rfl (by decide) rfl ?_
  refine J_pick [2, 3, 1, 0] rfl ?_
  exact j_Md_find_28 FU _ _ _ _ hf
def f_Md_find (σ : Sg)  : Option (Int32 × Sg) :=
  bd (f_Md_readsRopes σ) fun r3 σ2 =>
    bd (f_Md_readsRight σ2) fun r6 σ5 =>
      if r6 = (-1) then f_Md_find_25 σ5 r6 (σ5.1 72 1) else f_Md_find_25 σ5 r6 0
set_option maxHeartbeats 4000000 in
theorem j_Md_find {V : Vx} {X : Xx} {r : Int32} {σ' : Sg} (σ : Sg) (hf : f_Md_find σ = some (r, σ')) : J V X (k2_rm 3 68) c_Md_find R_Md 4 (some .int) (Qr V X (some (.int r)) σ') σ 0 [(0, rf V 66)] [] := by
  unfold f_Md_find at hf
  refine J_aload_n (pc' := 1) d_Md_find_0 rfl 0 rfl ?_
  obtain ⟨r3, σ2, hq1, hf⟩ := bdE hf
  refine J_V (pc' := 4) (as := []) (rest := []) (st' := [.int r3]) d_Md_find_1 rfl sh_66 rfl mv_Md_131 (ct_Md_readsRopes V _ σ hq1) rfl rfl ⟨Nat.le_of_ble_eq_true rfl, Nat.le_of_ble_eq_true rfl⟩ ⟨rfl, rfl⟩ (Nat.le_of_ble_eq_true rfl) rfl ?_
  refine J_pop (pc' := 5) d_Md_find_4 rfl rfl ?_
  refine J_aload_n (pc' := 6) d_Md_find_5 rfl 0 rfl ?_
  obtain ⟨r6, σ5, hq4, hf⟩ := bdE hf
  refine J_V (pc' := 9) (as := []) (rest := []) (st' := [.int r6]) d_Md_find_6 rfl sh_66 rfl mv_Md_134 (ct_Md_readsRight V _ σ2 hq4) rfl rfl ⟨Nat.le_of_ble_eq_true rfl, Nat.le_of_ble_eq_true rfl⟩ ⟨rfl, rfl⟩ (Nat.le_of_ble_eq_true rfl) rfl ?_
  refine J_istore_n (pc' := 10) (lv' := [(1, .int r6), (0, rf V 66)]) d_Md_find_9 rfl rfl (by decide) rfl ?_
  refine J_iload_n (pc' := 11) d_Md_find_10 rfl 0 rfl ?_
  refine J_iconst (pc' := 12) (v := (-1)) d_Md_find_11 rfl ic_m1 ?_
  refine J_icmp_ne (pc' := 15) (tgt := 24) d_Md_find_12 rfl (by decide) (fun hc7 => ?_) (fun hc7 => ?_)
  · have hf := brF hc7 hf
    refine J_iconst (pc' := 25) (v := 0) d_Md_find_24 rfl ic_0 ?_
    refine J_pick [1, 0] rfl ?_
    exact j_Md_find_25 _ _ _ hf
  · have hf := brT hc7 hf
    refine J_aload_n (pc' := 16) d_Md_find_15 rfl 1 rfl ?_
    refine J_getR (pc' := 19) d_Md_find_16 rfl sh_66 fl_Md_25 rfl ?_
    refine J_iconst (pc' := 20) (v := 1) d_Md_find_19 rfl ic_1 ?_
    refine J_ial (pc' := 21) d_Md_find_20 rfl sh_72 (vin_c (by decide)) ?_
    refine J_goto (tgt := 25) d_Md_find_21 (by decide) ?_
    refine J_pick [1, 0] rfl ?_
    exact j_Md_find_25 _ _ _ hf
theorem ct_Md_find (V : Vx) (l : Launch) (σ : Sg) {r : Int32} {σ' : Sg} (hf : f_Md_find σ = some (r, σ')) : Ct V l y_Md_find c_Md_find 4 (some .int) (k2_rm 3 68) [rf V 66] σ (some (.int r)) σ' := Ct.ofJ (by decide +kernel) (Nat.le_of_ble_eq_true rfl) fun X _ => j_Md_find _  hf
def f_Md_faultOf (σ : Sg) (v1 : Int32) : Option (Int32 × Sg) :=
  if v1 = 0 then
    bd (f_Md_readsRopes σ) fun r7 σ6 =>
      some (r7, σ6)
  else
    bd (f_Md_find σ) fun r4 σ3 =>
      some (r4, σ3)
set_option maxHeartbeats 4000000 in
theorem j_Md_faultOf {V : Vx} {X : Xx} {r : Int32} {σ' : Sg} (σ : Sg) (v1 : Int32) (hf : f_Md_faultOf σ v1 = some (r, σ')) : J V X (k2_rm 4 91) c_Md_faultOf R_Md 2 (some .int) (Qr V X (some (.int r)) σ') σ 0 [(0, rf V 66), (1, .int v1)] [] := by
  unfold f_Md_faultOf at hf
  refine J_iload_n (pc' := 1) d_Md_faultOf_0 rfl 1 rfl ?_
  refine J_if_ne (pc' := 4) (tgt := 11) d_Md_faultOf_1 rfl (by decide) (fun hc1 => ?_) (fun hc1 => ?_)
  · have hf := brF hc1 hf
    refine J_aload_n (pc' := 12) d_Md_faultOf_11 rfl 0 rfl ?_
    obtain ⟨r4, σ3, hq2, hf⟩ := bdE hf
    refine J_V (pc' := 15) (as := []) (rest := []) (st' := [.int r4]) d_Md_faultOf_12 rfl sh_66 rfl mv_Md_137 (ct_Md_find V _ σ hq2) rfl rfl ⟨Nat.le_of_ble_eq_true rfl, Nat.le_of_ble_eq_true rfl⟩ ⟨rfl, rfl⟩ (Nat.le_of_ble_eq_true rfl) rfl ?_
    obtain ⟨rfl, rfl⟩ := resE hf
    exact J_iret d_Md_faultOf_15
  · have hf := brT hc1 hf
    refine J_aload_n (pc' := 5) d_Md_faultOf_4 rfl 0 rfl ?_
    obtain ⟨r7, σ6, hq5, hf⟩ := bdE hf
    refine J_V (pc' := 8) (as := []) (rest := []) (st' := [.int r7]) d_Md_faultOf_5 rfl sh_66 rfl mv_Md_131 (ct_Md_readsRopes V _ σ hq5) rfl rfl ⟨Nat.le_of_ble_eq_true rfl, Nat.le_of_ble_eq_true rfl⟩ ⟨rfl, rfl⟩ (Nat.le_of_ble_eq_true rfl) rfl ?_
    refine J_goto (tgt := 15) d_Md_faultOf_8 (by decide) ?_
    obtain ⟨rfl, rfl⟩ := resE hf
    exact J_iret d_Md_faultOf_15
theorem ct_Md_faultOf (V : Vx) (l : Launch) (σ : Sg) (v1 : Int32) {r : Int32} {σ' : Sg} (hf : f_Md_faultOf σ v1 = some (r, σ')) : Ct V l y_Md_faultOf c_Md_faultOf 2 (some .int) (k2_rm 4 91) [rf V 66, .int v1] σ (some (.int r)) σ' := Ct.ofJ (by decide +kernel) (Nat.le_of_ble_eq_true rfl) fun X _ => j_Md_faultOf _ v1 hf
def f_Md_fault (σ : Sg) (v1 : Int32) : Option (Int32 × Sg) :=
  if (f_Md_isTwo v1) = 0 then
    some ((-2), σ)
  else
    bd (f_Md_faultOf σ v1) fun r4 σ3 =>
      some (r4, σ3)
set_option maxHeartbeats 4000000 in
theorem j_Md_fault {V : Vx} {X : Xx} {r : Int32} {σ' : Sg} (σ : Sg) (v1 : Int32) (hf : f_Md_fault σ v1 = some (r, σ')) : J V X (k2_rm 5 112) c_Md_fault R_Md 2 (some .int) (Qr V X (some (.int r)) σ') σ 0 [(0, rf V 66), (1, .int v1)] [] := by
  unfold f_Md_fault at hf
  refine J_iload_n (pc' := 1) d_Md_fault_0 rfl 1 rfl ?_
  refine J_S (pc' := 4) (as := [.int v1]) (rest := []) (st' := [.int (f_Md_isTwo v1)]) d_Md_fault_1 rfl ms_Md_106 (ct_Md_isTwo V _ σ v1) rfl rfl ⟨Nat.le_of_ble_eq_true rfl, Nat.le_of_ble_eq_true rfl⟩ ⟨rfl, rfl⟩ (Nat.le_of_ble_eq_true rfl) rfl ?_
  refine J_if_eq (pc' := 7) (tgt := 15) d_Md_fault_4 rfl (by decide) (fun hc1 => ?_) (fun hc1 => ?_)
  · have hf := brT hc1 hf
    refine J_bipush (pc' := 17) (v := (-2)) d_Md_fault_15 rfl bc_m2 ?_
    obtain ⟨rfl, rfl⟩ := resE hf
    exact J_iret d_Md_fault_17
  · have hf := brF hc1 hf
    refine J_aload_n (pc' := 8) d_Md_fault_7 rfl 0 rfl ?_
    refine J_iload_n (pc' := 9) d_Md_fault_8 rfl 1 rfl ?_
    obtain ⟨r4, σ3, hq2, hf⟩ := bdE hf
    refine J_V (pc' := 12) (as := [.int v1]) (rest := []) (st' := [.int r4]) d_Md_fault_9 rfl sh_66 rfl mv_Md_140 (ct_Md_faultOf V _ σ v1 hq2) rfl rfl ⟨Nat.le_of_ble_eq_true rfl, Nat.le_of_ble_eq_true rfl⟩ ⟨rfl, rfl⟩ (Nat.le_of_ble_eq_true rfl) rfl ?_
    refine J_goto (tgt := 17) d_Md_fault_12 (by decide) ?_
    obtain ⟨rfl, rfl⟩ := resE hf
    exact J_iret d_Md_fault_17
theorem ct_Md_fault (V : Vx) (l : Launch) (σ : Sg) (v1 : Int32) {r : Int32} {σ' : Sg} (hf : f_Md_fault σ v1 = some (r, σ')) : Ct V l y_Md_fault c_Md_fault 2 (some .int) (k2_rm 5 112) [rf V 66, .int v1] σ (some (.int r)) σ' := Ct.ofJ (by decide +kernel) (Nat.le_of_ble_eq_true rfl) fun X _ => j_Md_fault _ v1 hf
def f_Md_hasRope (σ : Sg) (v1 : Int32) : Option (Int32 × Sg) :=
  bd (f_Md_find σ) fun r3 σ2 =>
    some (zb (f_Md_isRope σ2 v1), σ2)
set_option maxHeartbeats 4000000 in
theorem j_Md_hasRope {V : Vx} {X : Xx} {r : Int32} {σ' : Sg} (σ : Sg) (v1 : Int32) (hf : f_Md_hasRope σ v1 = some (r, σ')) : J V X (k2_rm 4 91) c_Md_hasRope R_Md 2 (some .boolean) (Qr V X (some (.int r)) σ') σ 0 [(0, rf V 66), (1, .int v1)] [] := by
  unfold f_Md_hasRope at hf
  refine J_aload_n (pc' := 1) d_Md_hasRope_0 rfl 0 rfl ?_
  obtain ⟨r3, σ2, hq1, hf⟩ := bdE hf
  refine J_V (pc' := 4) (as := []) (rest := []) (st' := [.int r3]) d_Md_hasRope_1 rfl sh_66 rfl mv_Md_137 (ct_Md_find V _ σ hq1) rfl rfl ⟨Nat.le_of_ble_eq_true rfl, Nat.le_of_ble_eq_true rfl⟩ ⟨rfl, rfl⟩ (Nat.le_of_ble_eq_true rfl) rfl ?_
  refine J_pop (pc' := 5) d_Md_hasRope_4 rfl rfl ?_
  refine J_aload_n (pc' := 6) d_Md_hasRope_5 rfl 0 rfl ?_
  refine J_iload_n (pc' := 7) d_Md_hasRope_6 rfl 1 rfl ?_
  refine J_V (pc' := 10) (as := [.int v1]) (rest := []) (st' := [.int (f_Md_isRope σ2 v1)]) d_Md_hasRope_7 rfl sh_66 rfl mv_Md_128 (ct_Md_isRope V _ σ2 v1) rfl rfl ⟨Nat.le_of_ble_eq_true rfl, Nat.le_of_ble_eq_true rfl⟩ ⟨rfl, rfl⟩ (Nat.le_of_ble_eq_true rfl) rfl ?_
  obtain ⟨rfl, rfl⟩ := resE hf
  exact J_zretG d_Md_hasRope_10
theorem ct_Md_hasRope (V : Vx) (l : Launch) (σ : Sg) (v1 : Int32) {r : Int32} {σ' : Sg} (hf : f_Md_hasRope σ v1 = some (r, σ')) : Ct V l y_Md_hasRope c_Md_hasRope 2 (some .boolean) (k2_rm 4 91) [rf V 66, .int v1] σ (some (.int r)) σ' := Ct.ofJ (by decide +kernel) (Nat.le_of_ble_eq_true rfl) fun X _ => j_Md_hasRope _ v1 hf
def f_Md_ropeOf (σ : Sg) (v1 : Int32) (v2 : Int32) : Option Int32 :=
  if v2 = 6 then
    gd (vin v1 8) (
      some (σ.1 74 v1.toNatClampNeg))
  else
    gd (vin ((6 * v1) + v2) 54) (
      some (σ.1 73 ((6 * v1) + v2).toNatClampNeg))
set_option maxHeartbeats 4000000 in
theorem j_Md_ropeOf {V : Vx} {X : Xx} {r : Int32} (σ : Sg) (v1 : Int32) (v2 : Int32) (hf : f_Md_ropeOf σ v1 v2 = some r) : J V X (k2_rm 0 0) c_Md_ropeOf R_Md 3 (some .int) (Qr V X (some (.int r)) σ) σ 0 [(0, rf V 66), (1, .int v1), (2, .int v2)] [] := by
  unfold f_Md_ropeOf at hf
  refine J_iload_n (pc' := 1) d_Md_ropeOf_0 rfl 2 rfl ?_
  refine J_bipush (pc' := 3) (v := 6) d_Md_ropeOf_1 rfl bc_6 ?_
  refine J_icmp_ne (pc' := 6) (tgt := 15) d_Md_ropeOf_3 rfl (by decide) (fun hc1 => ?_) (fun hc1 => ?_)
  · have hf := brF hc1 hf
    refine J_aload_n (pc' := 16) d_Md_ropeOf_15 rfl 0 rfl ?_
    refine J_getR (pc' := 19) d_Md_ropeOf_16 rfl sh_66 fl_Md_28 rfl ?_
    refine J_bipush (pc' := 21) (v := 6) d_Md_ropeOf_19 rfl bc_6 ?_
    refine J_iload_n (pc' := 22) d_Md_ropeOf_21 rfl 1 rfl ?_
    refine J_imul (pc' := 23) d_Md_ropeOf_22 rfl ?_
    refine J_iload_n (pc' := 24) d_Md_ropeOf_23 rfl 2 rfl ?_
    refine J_iadd (pc' := 25) d_Md_ropeOf_24 rfl ?_
    obtain ⟨hg2, hf⟩ := gdE hf
    refine J_ial (pc' := 26) d_Md_ropeOf_25 rfl sh_73 (vinP hg2) ?_
    obtain rfl := Option.some.inj hf
    exact J_iret d_Md_ropeOf_26
  · have hf := brT hc1 hf
    refine J_aload_n (pc' := 7) d_Md_ropeOf_6 rfl 0 rfl ?_
    refine J_getR (pc' := 10) d_Md_ropeOf_7 rfl sh_66 fl_Md_31 rfl ?_
    refine J_iload_n (pc' := 11) d_Md_ropeOf_10 rfl 1 rfl ?_
    obtain ⟨hg3, hf⟩ := gdE hf
    refine J_ial (pc' := 12) d_Md_ropeOf_11 rfl sh_74 (vinP hg3) ?_
    refine J_goto (tgt := 26) d_Md_ropeOf_12 (by decide) ?_
    obtain rfl := Option.some.inj hf
    exact J_iret d_Md_ropeOf_26
theorem ct_Md_ropeOf (V : Vx) (l : Launch) (σ : Sg) (v1 : Int32) (v2 : Int32) {r : Int32} (hf : f_Md_ropeOf σ v1 v2 = some r) : Ct V l y_Md_ropeOf c_Md_ropeOf 3 (some .int) (k2_rm 0 0) [rf V 66, .int v1, .int v2] σ (some (.int r)) σ := Ct.ofJ (by decide +kernel) (Nat.le_of_ble_eq_true rfl) fun X _ => j_Md_ropeOf _ v1 v2 hf
def f_Md_rope (σ : Sg) (v1 : Int32) (v2 : Int32) : Option (Int32 × Sg) :=
  bd (f_Md_hasRope σ v1) fun r3 σ2 =>
    if r3 = 0 then
      some ((-2), σ2)
    else
      if (f_Md_in v2.toInt64 0 6) = 0 then
        some ((-2), σ2)
      else
        (f_Md_ropeOf σ2 v1 v2).bind fun r7 =>
          some (r7, σ2)
set_option maxHeartbeats 4000000 in
theorem j_Md_rope {V : Vx} {X : Xx} {r : Int32} {σ' : Sg} (σ : Sg) (v1 : Int32) (v2 : Int32) (hf : f_Md_rope σ v1 v2 = some (r, σ')) : J V X (k2_rm 5 112) c_Md_rope R_Md 3 (some .int) (Qr V X (some (.int r)) σ') σ 0 [(0, rf V 66), (1, .int v1), (2, .int v2)] [] := by
  unfold f_Md_rope at hf
  refine J_aload_n (pc' := 1) d_Md_rope_0 rfl 0 rfl ?_
  refine J_iload_n (pc' := 2) d_Md_rope_1 rfl 1 rfl ?_
  obtain ⟨r3, σ2, hq1, hf⟩ := bdE hf
  refine J_V (pc' := 5) (as := [.int v1]) (rest := []) (st' := [.int r3]) d_Md_rope_2 rfl sh_66 rfl mv_Md_143 (ct_Md_hasRope V _ σ v1 hq1) rfl rfl ⟨Nat.le_of_ble_eq_true rfl, Nat.le_of_ble_eq_true rfl⟩ ⟨rfl, rfl⟩ (Nat.le_of_ble_eq_true rfl) rfl ?_
  refine J_if_eq (pc' := 8) (tgt := 29) d_Md_rope_5 rfl (by decide) (fun hc4 => ?_) (fun hc4 => ?_)
  · have hf := brT hc4 hf
    refine J_bipush (pc' := 31) (v := (-2)) d_Md_rope_29 rfl bc_m2 ?_
    obtain ⟨rfl, rfl⟩ := resE hf
    exact J_iret d_Md_rope_31
  · have hf := brF hc4 hf
    refine J_iload_n (pc' := 9) d_Md_rope_8 rfl 2 rfl ?_
    refine J_i2l (pc' := 10) d_Md_rope_9 rfl ?_
    refine J_lconst (pc' := 11) (v := 0) d_Md_rope_10 rfl lc_0 ?_
    refine J_ldc2 (pc' := 14) (v := 6) d_Md_rope_11 rfl cw_Md_146 ?_
    refine J_S (pc' := 17) (as := [.long v2.toInt64, .long 0, .long 6]) (rest := []) (st' := [.int (f_Md_in v2.toInt64 0 6)]) d_Md_rope_14 rfl ms_Md_73 (ct_Md_in V _ σ2 v2.toInt64 0 6) rfl rfl ⟨Nat.le_of_ble_eq_true rfl, Nat.le_of_ble_eq_true rfl⟩ ⟨rfl, rfl⟩ (Nat.le_of_ble_eq_true rfl) rfl ?_
    refine J_if_eq (pc' := 20) (tgt := 29) d_Md_rope_17 rfl (by decide) (fun hc5 => ?_) (fun hc5 => ?_)
    · have hf := brT hc5 hf
      refine J_bipush (pc' := 31) (v := (-2)) d_Md_rope_29 rfl bc_m2 ?_
      obtain ⟨rfl, rfl⟩ := resE hf
      exact J_iret d_Md_rope_31
    · have hf := brF hc5 hf
      refine J_aload_n (pc' := 21) d_Md_rope_20 rfl 0 rfl ?_
      refine J_iload_n (pc' := 22) d_Md_rope_21 rfl 1 rfl ?_
      refine J_iload_n (pc' := 23) d_Md_rope_22 rfl 2 rfl ?_
      obtain ⟨r7, hq6, hf⟩ := bpE hf
      refine J_V (pc' := 26) (as := [.int v1, .int v2]) (rest := []) (st' := [.int r7]) d_Md_rope_23 rfl sh_66 rfl mv_Md_148 (ct_Md_ropeOf V _ σ2 v1 v2 hq6) rfl rfl ⟨Nat.le_of_ble_eq_true rfl, Nat.le_of_ble_eq_true rfl⟩ ⟨rfl, rfl⟩ (Nat.le_of_ble_eq_true rfl) rfl ?_
      refine J_goto (tgt := 31) d_Md_rope_26 (by decide) ?_
      obtain ⟨rfl, rfl⟩ := resE hf
      exact J_iret d_Md_rope_31
theorem ct_Md_rope (V : Vx) (l : Launch) (σ : Sg) (v1 : Int32) (v2 : Int32) {r : Int32} {σ' : Sg} (hf : f_Md_rope σ v1 v2 = some (r, σ')) : Ct V l y_Md_rope c_Md_rope 3 (some .int) (k2_rm 5 112) [rf V 66, .int v1, .int v2] σ (some (.int r)) σ' := Ct.ofJ (by decide +kernel) (Nat.le_of_ble_eq_true rfl) fun X _ => j_Md_rope _ v1 v2 hf
def f_Md_areTwo (σ : Sg) (v1 : Int32) (v2 : Int32) : Option (Int32 × Sg) :=
  bd (f_Md_hasRope σ v1) fun r3 σ2 =>
    if r3 = 0 then some (0, σ2) else if (f_Md_isRope σ2 v2) = 0 then some (0, σ2) else if v1 = v2 then some (0, σ2) else some (1, σ2)
set_option maxHeartbeats 4000000 in
theorem j_Md_areTwo {V : Vx} {X : Xx} {r : Int32} {σ' : Sg} (σ : Sg) (v1 : Int32) (v2 : Int32) (hf : f_Md_areTwo σ v1 v2 = some (r, σ')) : J V X (k2_rm 5 112) c_Md_areTwo R_Md 3 (some .boolean) (Qr V X (some (.int r)) σ') σ 0 [(0, rf V 66), (1, .int v1), (2, .int v2)] [] := by
  unfold f_Md_areTwo at hf
  refine J_aload_n (pc' := 1) d_Md_areTwo_0 rfl 0 rfl ?_
  refine J_iload_n (pc' := 2) d_Md_areTwo_1 rfl 1 rfl ?_
  obtain ⟨r3, σ2, hq1, hf⟩ := bdE hf
  refine J_V (pc' := 5) (as := [.int v1]) (rest := []) (st' := [.int r3]) d_Md_areTwo_2 rfl sh_66 rfl mv_Md_143 (ct_Md_hasRope V _ σ v1 hq1) rfl rfl ⟨Nat.le_of_ble_eq_true rfl, Nat.le_of_ble_eq_true rfl⟩ ⟨rfl, rfl⟩ (Nat.le_of_ble_eq_true rfl) rfl ?_
  refine J_if_eq (pc' := 8) (tgt := 25) d_Md_areTwo_5 rfl (by decide) (fun hc4 => ?_) (fun hc4 => ?_)
  · have hf := brT hc4 hf
    refine J_iconst (pc' := 26) (v := 0) d_Md_areTwo_25 rfl ic_0 ?_
    obtain ⟨rfl, rfl⟩ := resE hf
    exact J_zret (by decide) d_Md_areTwo_26
  · have hf := brF hc4 hf
    refine J_aload_n (pc' := 9) d_Md_areTwo_8 rfl 0 rfl ?_
    refine J_iload_n (pc' := 10) d_Md_areTwo_9 rfl 2 rfl ?_
    refine J_V (pc' := 13) (as := [.int v2]) (rest := []) (st' := [.int (f_Md_isRope σ2 v2)]) d_Md_areTwo_10 rfl sh_66 rfl mv_Md_128 (ct_Md_isRope V _ σ2 v2) rfl rfl ⟨Nat.le_of_ble_eq_true rfl, Nat.le_of_ble_eq_true rfl⟩ ⟨rfl, rfl⟩ (Nat.le_of_ble_eq_true rfl) rfl ?_
    refine J_if_eq (pc' := 16) (tgt := 25) d_Md_areTwo_13 rfl (by decide) (fun hc5 => ?_) (fun hc5 => ?_)
    · have hf := brT hc5 hf
      refine J_iconst (pc' := 26) (v := 0) d_Md_areTwo_25 rfl ic_0 ?_
      obtain ⟨rfl, rfl⟩ := resE hf
      exact J_zret (by decide) d_Md_areTwo_26
    · have hf := brF hc5 hf
      refine J_iload_n (pc' := 17) d_Md_areTwo_16 rfl 1 rfl ?_
      refine J_iload_n (pc' := 18) d_Md_areTwo_17 rfl 2 rfl ?_
      refine J_icmp_eq (pc' := 21) (tgt := 25) d_Md_areTwo_18 rfl (by decide) (fun hc6 => ?_) (fun hc6 => ?_)
      · have hf := brT hc6 hf
        refine J_iconst (pc' := 26) (v := 0) d_Md_areTwo_25 rfl ic_0 ?_
        obtain ⟨rfl, rfl⟩ := resE hf
        exact J_zret (by decide) d_Md_areTwo_26
      · have hf := brF hc6 hf
        refine J_iconst (pc' := 22) (v := 1) d_Md_areTwo_21 rfl ic_1 ?_
        refine J_goto (tgt := 26) d_Md_areTwo_22 (by decide) ?_
        obtain ⟨rfl, rfl⟩ := resE hf
        exact J_zret (by decide) d_Md_areTwo_26
theorem ct_Md_areTwo (V : Vx) (l : Launch) (σ : Sg) (v1 : Int32) (v2 : Int32) {r : Int32} {σ' : Sg} (hf : f_Md_areTwo σ v1 v2 = some (r, σ')) : Ct V l y_Md_areTwo c_Md_areTwo 3 (some .boolean) (k2_rm 5 112) [rf V 66, .int v1, .int v2] σ (some (.int r)) σ' := Ct.ofJ (by decide +kernel) (Nat.le_of_ble_eq_true rfl) fun X _ => j_Md_areTwo _ v1 v2 hf
def f_Md_above (σ : Sg) (v1 : Int32) (v2 : Int32) (v3 : Int32) : Option Int32 :=
  gd (vin ((6 * v1) + v3) 54) (
    gd (vin ((6 * v2) + v3) 54) (
      some ((σ.1 73 ((6 * v1) + v3).toNatClampNeg) - (σ.1 73 ((6 * v2) + v3).toNatClampNeg))))
set_option maxHeartbeats 4000000 in
theorem j_Md_above {V : Vx} {X : Xx} {r : Int32} (σ : Sg) (v1 : Int32) (v2 : Int32) (v3 : Int32) (hf : f_Md_above σ v1 v2 v3 = some r) : J V X (k2_rm 0 0) c_Md_above R_Md 4 (some .int) (Qr V X (some (.int r)) σ) σ 0 [(0, rf V 66), (1, .int v1), (2, .int v2), (3, .int v3)] [] := by
  unfold f_Md_above at hf
  refine J_aload_n (pc' := 1) d_Md_above_0 rfl 0 rfl ?_
  refine J_getR (pc' := 4) d_Md_above_1 rfl sh_66 fl_Md_28 rfl ?_
  refine J_bipush (pc' := 6) (v := 6) d_Md_above_4 rfl bc_6 ?_
  refine J_iload_n (pc' := 7) d_Md_above_6 rfl 1 rfl ?_
  refine J_imul (pc' := 8) d_Md_above_7 rfl ?_
  refine J_iload_n (pc' := 9) d_Md_above_8 rfl 3 rfl ?_
  refine J_iadd (pc' := 10) d_Md_above_9 rfl ?_
  obtain ⟨hg1, hf⟩ := gdE hf
  refine J_ial (pc' := 11) d_Md_above_10 rfl sh_73 (vinP hg1) ?_
  refine J_aload_n (pc' := 12) d_Md_above_11 rfl 0 rfl ?_
  refine J_getR (pc' := 15) d_Md_above_12 rfl sh_66 fl_Md_28 rfl ?_
  refine J_bipush (pc' := 17) (v := 6) d_Md_above_15 rfl bc_6 ?_
  refine J_iload_n (pc' := 18) d_Md_above_17 rfl 2 rfl ?_
  refine J_imul (pc' := 19) d_Md_above_18 rfl ?_
  refine J_iload_n (pc' := 20) d_Md_above_19 rfl 3 rfl ?_
  refine J_iadd (pc' := 21) d_Md_above_20 rfl ?_
  obtain ⟨hg2, hf⟩ := gdE hf
  refine J_ial (pc' := 22) d_Md_above_21 rfl sh_73 (vinP hg2) ?_
  refine J_isub (pc' := 23) d_Md_above_22 rfl ?_
  obtain rfl := Option.some.inj hf
  exact J_iret d_Md_above_23
theorem ct_Md_above (V : Vx) (l : Launch) (σ : Sg) (v1 : Int32) (v2 : Int32) (v3 : Int32) {r : Int32} (hf : f_Md_above σ v1 v2 v3 = some r) : Ct V l y_Md_above c_Md_above 4 (some .int) (k2_rm 0 0) [rf V 66, .int v1, .int v2, .int v3] σ (some (.int r)) σ := Ct.ofJ (by decide +kernel) (Nat.le_of_ble_eq_true rfl) fun X _ => j_Md_above _ v1 v2 v3 hf
def f_Md_doCross_26 (σ : Sg) (v3 : Int32) (v4 : Int32) : Option Int32 :=
  if 0 ≤ v3 then some 0 else if v4 ≤ 0 then some 0 else some 1
set_option maxHeartbeats 4000000 in
theorem j_Md_doCross_26 {V : Vx} {X : Xx} {σ : Sg} {r : Int32}  (v3 : Int32) (v4 : Int32) (hf : f_Md_doCross_26 σ v3 v4 = some r) : J V X (k2_rm 1 23) c_Md_doCross R_Md 5 (some .boolean) (Qr V X (some (.int r)) σ) σ 26 [(3, .int v3), (4, .int v4)] [] := by
  unfold f_Md_doCross_26 at hf
  refine J_iload_n (pc' := 27) d_Md_doCross_26 rfl 0 rfl ?_
  refine J_if_ge (pc' := 30) (tgt := 39) d_Md_doCross_27 rfl (by decide) (fun hc6 => ?_) (fun hc6 => ?_)
  · have hf := brT hc6 hf
    refine J_iconst (pc' := 40) (v := 0) d_Md_doCross_39 rfl ic_0 ?_
    obtain rfl := Option.some.inj hf
    exact J_zret (by decide) d_Md_doCross_40
  · have hf := brF hc6 hf
    refine J_iload (pc' := 32) d_Md_doCross_30 rfl 1 rfl ?_
    refine J_if_le (pc' := 35) (tgt := 39) d_Md_doCross_32 rfl (by decide) (fun hc7 => ?_) (fun hc7 => ?_)
    · have hf := brT hc7 hf
      refine J_iconst (pc' := 40) (v := 0) d_Md_doCross_39 rfl ic_0 ?_
      obtain rfl := Option.some.inj hf
      exact J_zret (by decide) d_Md_doCross_40
    · have hf := brF hc7 hf
      refine J_iconst (pc' := 36) (v := 1) d_Md_doCross_35 rfl ic_1 ?_
      refine J_goto (tgt := 40) d_Md_doCross_36 (by decide) ?_
      obtain rfl := Option.some.inj hf
      exact J_zret (by decide) d_Md_doCross_40
def f_Md_doCross (σ : Sg) (v1 : Int32) (v2 : Int32) : Option Int32 :=
  (f_Md_above σ v1 v2 0).bind fun r2 =>
    (f_Md_above σ v1 v2 1).bind fun r4 =>
      if r2 ≤ 0 then f_Md_doCross_26 σ r2 r4 else if r4 < 0 then some 1 else f_Md_doCross_26 σ r2 r4
set_option maxHeartbeats 4000000 in
theorem j_Md_doCross {V : Vx} {X : Xx} {r : Int32} (σ : Sg) (v1 : Int32) (v2 : Int32) (hf : f_Md_doCross σ v1 v2 = some r) : J V X (k2_rm 1 23) c_Md_doCross R_Md 5 (some .boolean) (Qr V X (some (.int r)) σ) σ 0 [(0, rf V 66), (1, .int v1), (2, .int v2)] [] := by
  unfold f_Md_doCross at hf
  refine J_aload_n (pc' := 1) d_Md_doCross_0 rfl 0 rfl ?_
  refine J_iload_n (pc' := 2) d_Md_doCross_1 rfl 1 rfl ?_
  refine J_iload_n (pc' := 3) d_Md_doCross_2 rfl 2 rfl ?_
  refine J_iconst (pc' := 4) (v := 0) d_Md_doCross_3 rfl ic_0 ?_
  obtain ⟨r2, hq1, hf⟩ := bpE hf
  refine J_V (pc' := 7) (as := [.int v1, .int v2, .int 0]) (rest := []) (st' := [.int r2]) d_Md_doCross_4 rfl sh_66 rfl mv_Md_151 (ct_Md_above V _ σ v1 v2 0 hq1) rfl rfl ⟨Nat.le_of_ble_eq_true rfl, Nat.le_of_ble_eq_true rfl⟩ ⟨rfl, rfl⟩ (Nat.le_of_ble_eq_true rfl) rfl ?_
  refine J_istore_n (pc' := 8) (lv' := [(3, .int r2), (0, rf V 66), (1, .int v1), (2, .int v2)]) d_Md_doCross_7 rfl rfl (by decide) rfl ?_
  refine J_aload_n (pc' := 9) d_Md_doCross_8 rfl 1 rfl ?_
  refine J_iload_n (pc' := 10) d_Md_doCross_9 rfl 2 rfl ?_
  refine J_iload_n (pc' := 11) d_Md_doCross_10 rfl 3 rfl ?_
  refine J_iconst (pc' := 12) (v := 1) d_Md_doCross_11 rfl ic_1 ?_
  obtain ⟨r4, hq3, hf⟩ := bpE hf
  refine J_V (pc' := 15) (as := [.int v1, .int v2, .int 1]) (rest := []) (st' := [.int r4]) d_Md_doCross_12 rfl sh_66 rfl mv_Md_151 (ct_Md_above V _ σ v1 v2 1 hq3) rfl rfl ⟨Nat.le_of_ble_eq_true rfl, Nat.le_of_ble_eq_true rfl⟩ ⟨rfl, rfl⟩ (Nat.le_of_ble_eq_true rfl) rfl ?_
  refine J_istore (pc' := 17) (lv' := [(4, .int r4), (3, .int r2), (0, rf V 66), (1, .int v1), (2, .int v2)]) d_Md_doCross_15 rfl (by decide) rfl ?_
  refine J_iload_n (pc' := 18) d_Md_doCross_17 rfl 1 rfl ?_
  refine J_if_le (pc' := 21) (tgt := 26) d_Md_doCross_18 rfl (by decide) (fun hc5 => ?_) (fun hc5 => ?_)
  · have hf := brT hc5 hf
    refine J_pick [1, 0] rfl ?_
    exact j_Md_doCross_26 _ _ hf
  · have hf := brF hc5 hf
    refine J_iload (pc' := 23) d_Md_doCross_21 rfl 0 rfl ?_
    refine J_if_lt (pc' := 26) (tgt := 35) d_Md_doCross_23 rfl (by decide) (fun hc8 => ?_) (fun hc8 => ?_)
    · have hf := brT hc8 hf
      refine J_iconst (pc' := 36) (v := 1) d_Md_doCross_35 rfl ic_1 ?_
      refine J_goto (tgt := 40) d_Md_doCross_36 (by decide) ?_
      obtain rfl := Option.some.inj hf
      exact J_zret (by decide) d_Md_doCross_40
    · have hf := brF hc8 hf
      refine J_pick [1, 0] rfl ?_
      exact j_Md_doCross_26 _ _ hf
theorem ct_Md_doCross (V : Vx) (l : Launch) (σ : Sg) (v1 : Int32) (v2 : Int32) {r : Int32} (hf : f_Md_doCross σ v1 v2 = some r) : Ct V l y_Md_doCross c_Md_doCross 5 (some .boolean) (k2_rm 1 23) [rf V 66, .int v1, .int v2] σ (some (.int r)) σ := Ct.ofJ (by decide +kernel) (Nat.le_of_ble_eq_true rfl) fun X _ => j_Md_doCross _ v1 v2 hf
def f_Md_crossesWith_32 (k4 : Sg → Int32 → Int32 → Int32 → Option Int32) (σ : Sg) (v1 : Int32) (v3 : Int32) (s0 : Int32) (s1 : Int32) : Option Int32 :=
  k4 σ v1 (s1 + s0) (v3 + 1)
set_option maxHeartbeats 4000000 in
theorem j_Md_crossesWith_32 {V : Vx} {X : Xx} {σ : Sg} {r : Int32} {k4 : Sg → Int32 → Int32 → Int32 → Option Int32} (hk4 : ∀ (v1 : Int32) (v2 : Int32) (v3 : Int32), k4 σ v1 v2 v3 = some r → J V X (k2_rm 2 47) c_Md_crossesWith R_Md 4 (some .int) (Qr V X (some (.int r)) σ) σ 4 [(0, rf V 66), (1, .int v1), (2, .int v2), (3, .int v3)] []) (v1 : Int32) (v3 : Int32) (s0 : Int32) (s1 : Int32) (hf : f_Md_crossesWith_32 k4 σ v1 v3 s0 s1 = some r) : J V X (k2_rm 2 47) c_Md_crossesWith R_Md 4 (some .int) (Qr V X (some (.int r)) σ) σ 32 [(0, rf V 66), (1, .int v1), (3, .int v3)] [.int s0, .int s1] := by
  unfold f_Md_crossesWith_32 at hf
  refine J_iadd (pc' := 33) d_Md_crossesWith_32 rfl ?_
  refine J_istore_n (pc' := 34) (lv' := [(2, .int (s1 + s0)), (0, rf V 66), (1, .int v1), (3, .int v3)]) d_Md_crossesWith_33 rfl rfl (by decide) rfl ?_
  refine J_iinc (pc' := 37) (j := 3) (v := 1) (lv' := [(3, .int (v3 + 1)), (2, .int (s1 + s0)), (0, rf V 66), (1, .int v1)]) d_Md_crossesWith_34 rfl rfl ic_1 (by decide) rfl ?_
  refine J_goto (tgt := 4) d_Md_crossesWith_37 (by decide) ?_
  refine J_pick [2, 3, 1, 0] rfl ?_
  exact hk4 _ _ _ hf
def f_Md_crossesWith_31 (k4 : Sg → Int32 → Int32 → Int32 → Option Int32) (σ : Sg) (v1 : Int32) (v3 : Int32) (s0 : Int32) : Option Int32 :=
  f_Md_crossesWith_32 k4 σ v1 v3 0 s0
set_option maxHeartbeats 4000000 in
theorem j_Md_crossesWith_31 {V : Vx} {X : Xx} {σ : Sg} {r : Int32} {k4 : Sg → Int32 → Int32 → Int32 → Option Int32} (hk4 : ∀ (v1 : Int32) (v2 : Int32) (v3 : Int32), k4 σ v1 v2 v3 = some r → J V X (k2_rm 2 47) c_Md_crossesWith R_Md 4 (some .int) (Qr V X (some (.int r)) σ) σ 4 [(0, rf V 66), (1, .int v1), (2, .int v2), (3, .int v3)] []) (v1 : Int32) (v3 : Int32) (s0 : Int32) (hf : f_Md_crossesWith_31 k4 σ v1 v3 s0 = some r) : J V X (k2_rm 2 47) c_Md_crossesWith R_Md 4 (some .int) (Qr V X (some (.int r)) σ) σ 31 [(0, rf V 66), (1, .int v1), (3, .int v3)] [.int s0] := by
  unfold f_Md_crossesWith_31 at hf
  refine J_iconst (pc' := 32) (v := 0) d_Md_crossesWith_31 rfl ic_0 ?_
  exact j_Md_crossesWith_32 hk4 _ _ _ _ hf
def f_Md_crossesWith_4 : Nat → Sg → Int32 → Int32 → Int32 → Option Int32
  | 0, _, _, _, _ => none
  | n + 1, σ, v1, v2, v3 =>
    if (σ.1 66 8) ≤ v3 then
      some v2
    else
      if v3 = v1 then
        f_Md_crossesWith_31 (f_Md_crossesWith_4 n) σ v1 v3 v2
      else
        (f_Md_doCross σ v1 v3).bind fun r4 =>
          if r4 = 0 then f_Md_crossesWith_31 (f_Md_crossesWith_4 n) σ v1 v3 v2 else f_Md_crossesWith_32 (f_Md_crossesWith_4 n) σ v1 v3 1 v2
theorem f_Md_crossesWith_4_s (n : Nat) (σ : Sg) (v1 : Int32) (v2 : Int32) (v3 : Int32) : f_Md_crossesWith_4 (n + 1) σ v1 v2 v3 =
    if (σ.1 66 8) ≤ v3 then
      some v2
    else
      if v3 = v1 then
        f_Md_crossesWith_31 (f_Md_crossesWith_4 n) σ v1 v3 v2
      else
        (f_Md_doCross σ v1 v3).bind fun r4 =>
          if r4 = 0 then f_Md_crossesWith_31 (f_Md_crossesWith_4 n) σ v1 v3 v2 else f_Md_crossesWith_32 (f_Md_crossesWith_4 n) σ v1 v3 1 v2 := rfl
set_option maxHeartbeats 4000000 in
theorem j_Md_crossesWith_4 {V : Vx} {X : Xx} {σ : Sg} {r : Int32}  : ∀ (n : Nat) (v1 : Int32) (v2 : Int32) (v3 : Int32), f_Md_crossesWith_4 n σ v1 v2 v3 = some r → J V X (k2_rm 2 47) c_Md_crossesWith R_Md 4 (some .int) (Qr V X (some (.int r)) σ) σ 4 [(0, rf V 66), (1, .int v1), (2, .int v2), (3, .int v3)] [] := by
  intro n
  induction n with
  | zero => intro v1 v2 v3 hf; exact nn hf
  | succ n ih =>
    intro v1 v2 v3 hf
    rw [f_Md_crossesWith_4_s] at hf
    refine J_iload_n (pc' := 5) d_Md_crossesWith_4 rfl 3 rfl ?_
    refine J_aload_n (pc' := 6) d_Md_crossesWith_5 rfl 0 rfl ?_
    refine J_getI (pc' := 9) d_Md_crossesWith_6 rfl sh_66 fl_Md_114 rfl ?_
    refine J_icmp_ge (pc' := 12) (tgt := 40) d_Md_crossesWith_9 rfl (by decide) (fun hc1 => ?_) (fun hc1 => ?_)
    · have hf := brT hc1 hf
      refine J_iload_n (pc' := 41) d_Md_crossesWith_40 rfl 2 rfl ?_
      obtain rfl := Option.some.inj hf
      exact J_iret d_Md_crossesWith_41
    · have hf := brF hc1 hf
      refine J_iload_n (pc' := 13) d_Md_crossesWith_12 rfl 2 rfl ?_
      refine J_iload_n (pc' := 14) d_Md_crossesWith_13 rfl 3 rfl ?_
      refine J_iload_n (pc' := 15) d_Md_crossesWith_14 rfl 1 rfl ?_
      refine J_icmp_eq (pc' := 18) (tgt := 31) d_Md_crossesWith_15 rfl (by decide) (fun hc2 => ?_) (fun hc2 => ?_)
      · have hf := brT hc2 hf
        refine J_pick [0, 1, 3] rfl ?_
        exact j_Md_crossesWith_31 ih _ _ _ hf
      · have hf := brF hc2 hf
        refine J_aload_n (pc' := 19) d_Md_crossesWith_18 rfl 0 rfl ?_
        refine J_iload_n (pc' := 20) d_Md_crossesWith_19 rfl 1 rfl ?_
        refine J_iload_n (pc' := 21) d_Md_crossesWith_20 rfl 3 rfl ?_
        obtain ⟨r4, hq3, hf⟩ := bpE hf
        refine J_V (pc' := 24) (as := [.int v1, .int v3]) (rest := [.int v2]) (st' := [.int r4, .int v2]) d_Md_crossesWith_21 rfl sh_66 rfl mv_Md_154 (ct_Md_doCross V _ σ v1 v3 hq3) rfl rfl ⟨Nat.le_of_ble_eq_true rfl, Nat.le_of_ble_eq_true rfl⟩ ⟨rfl, rfl⟩ (Nat.le_of_ble_eq_true rfl) rfl ?_
        refine J_if_eq (pc' := 27) (tgt := 31) d_Md_crossesWith_24 rfl (by decide) (fun hc5 => ?_) (fun hc5 => ?_)
        · have hf := brT hc5 hf
          refine J_pick [0, 1, 3] rfl ?_
          exact j_Md_crossesWith_31 ih _ _ _ hf
        · have hf := brF hc5 hf
          refine J_iconst (pc' := 28) (v := 1) d_Md_crossesWith_27 rfl ic_1 ?_
          refine J_goto (tgt := 32) d_Md_crossesWith_28 (by decide) ?_
          refine J_pick [0, 1, 3] rfl ?_
          exact j_Md_crossesWith_32 ih _ _ _ _ hf
def f_Md_crossesWith (σ : Sg) (v1 : Int32) : Option Int32 :=
  f_Md_crossesWith_4 FU σ v1 0 0
set_option maxHeartbeats 4000000 in
theorem j_Md_crossesWith {V : Vx} {X : Xx} {r : Int32} (σ : Sg) (v1 : Int32) (hf : f_Md_crossesWith σ v1 = some r) : J V X (k2_rm 2 47) c_Md_crossesWith R_Md 4 (some .int) (Qr V X (some (.int r)) σ) σ 0 [(0, rf V 66), (1, .int v1)] [] := by
  unfold f_Md_crossesWith at hf
  refine J_iconst (pc' := 1) (v := 0) d_Md_crossesWith_0 rfl ic_0 ?_
  refine J_istore_n (pc' := 2) (lv' := [(2, .int 0), (0, rf V 66), (1, .int v1)]) d_Md_crossesWith_1 rfl rfl (by decide) rfl ?_
  refine J_iconst (pc' := 3) (v := 0) d_Md_crossesWith_2 rfl ic_0 ?_
  refine J_istore_n (pc' := 4) (lv' := [(3, .int 0), (2, .int 0), (0, rf V 66), (1, .int v1)]) d_Md_crossesWith_3 rfl rfl (by decide) rfl ?_
  refine J_pick [2, 3, 1, 0] rfl ?_
  exact j_Md_crossesWith_4 FU _ _ _ hf
theorem ct_Md_crossesWith (V : Vx) (l : Launch) (σ : Sg) (v1 : Int32) {r : Int32} (hf : f_Md_crossesWith σ v1 = some r) : Ct V l y_Md_crossesWith c_Md_crossesWith 4 (some .int) (k2_rm 2 47) [rf V 66, .int v1] σ (some (.int r)) σ := Ct.ofJ (by decide +kernel) (Nat.le_of_ble_eq_true rfl) fun X _ => j_Md_crossesWith _ v1 hf
