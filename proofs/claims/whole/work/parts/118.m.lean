theorem d_Md_goesOn_0 : decode c_Md_goesOn 0 = .ok (.aload_n 0, 1) := by decide +kernel
theorem d_Md_goesOn_1 : decode c_Md_goesOn 1 = .ok (.getfield 259, 3) := by decide +kernel
theorem d_Md_goesOn_4 : decode c_Md_goesOn 4 = .ok (.iconst 1, 1) := by decide +kernel
theorem d_Md_goesOn_5 : decode c_Md_goesOn 5 = .ok (.isub, 1) := by decide +kernel
theorem d_Md_goesOn_6 : decode c_Md_goesOn 6 = .ok (.istore 4, 2) := by decide +kernel
theorem d_Md_goesOn_8 : decode c_Md_goesOn 8 = .ok (.iload_n 1, 1) := by decide +kernel
theorem d_Md_goesOn_9 : decode c_Md_goesOn 9 = .ok (.ifCond .ne 65, 3) := by decide +kernel
theorem d_Md_goesOn_12 : decode c_Md_goesOn 12 = .ok (.iload 4, 2) := by decide +kernel
theorem d_Md_goesOn_14 : decode c_Md_goesOn 14 = .ok (.ifCond .lt 28, 3) := by decide +kernel
theorem d_Md_goesOn_17 : decode c_Md_goesOn 17 = .ok (.aload_n 0, 1) := by decide +kernel
theorem d_Md_goesOn_18 : decode c_Md_goesOn 18 = .ok (.iload 4, 2) := by decide +kernel
theorem d_Md_goesOn_20 : decode c_Md_goesOn 20 = .ok (.aload_n 0, 1) := by decide +kernel
theorem d_Md_goesOn_21 : decode c_Md_goesOn 21 = .ok (.getfield 49, 3) := by decide +kernel
theorem d_Md_goesOn_24 : decode c_Md_goesOn 24 = .ok (.iload 4, 2) := by decide +kernel
theorem d_Md_goesOn_26 : decode c_Md_goesOn 26 = .ok (.iaload, 1) := by decide +kernel
theorem d_Md_goesOn_27 : decode c_Md_goesOn 27 = .ok (.iload_n 2, 1) := by decide +kernel
theorem d_Md_goesOn_28 : decode c_Md_goesOn 28 = .ok (.iload_n 3, 1) := by decide +kernel
theorem d_Md_goesOn_29 : decode c_Md_goesOn 29 = .ok (.invokevirtual 266, 3) := by decide +kernel
theorem d_Md_goesOn_32 : decode c_Md_goesOn 32 = .ok (.iconst (-1), 1) := by decide +kernel
theorem d_Md_goesOn_33 : decode c_Md_goesOn 33 = .ok (.if_icmp .ne 9, 3) := by decide +kernel
theorem d_Md_goesOn_36 : decode c_Md_goesOn 36 = .ok (.iinc 4 (-1), 3) := by decide +kernel
theorem d_Md_goesOn_39 : decode c_Md_goesOn 39 = .ok (.goto (-27), 3) := by decide +kernel
theorem d_Md_goesOn_42 : decode c_Md_goesOn 42 = .ok (.iload 4, 2) := by decide +kernel
theorem d_Md_goesOn_44 : decode c_Md_goesOn 44 = .ok (.ifCond .ge 5, 3) := by decide +kernel
theorem d_Md_goesOn_47 : decode c_Md_goesOn 47 = .ok (.iconst 0, 1) := by decide +kernel
theorem d_Md_goesOn_48 : decode c_Md_goesOn 48 = .ok (.ireturn, 1) := by decide +kernel
theorem d_Md_goesOn_49 : decode c_Md_goesOn 49 = .ok (.aload_n 0, 1) := by decide +kernel
theorem d_Md_goesOn_50 : decode c_Md_goesOn 50 = .ok (.getfield 49, 3) := by decide +kernel
theorem d_Md_goesOn_53 : decode c_Md_goesOn 53 = .ok (.iload 4, 2) := by decide +kernel
theorem d_Md_goesOn_55 : decode c_Md_goesOn 55 = .ok (.aload_n 0, 1) := by decide +kernel
theorem d_Md_goesOn_56 : decode c_Md_goesOn 56 = .ok (.iload 4, 2) := by decide +kernel
theorem d_Md_goesOn_58 : decode c_Md_goesOn 58 = .ok (.aload_n 0, 1) := by decide +kernel
theorem d_Md_goesOn_59 : decode c_Md_goesOn 59 = .ok (.getfield 49, 3) := by decide +kernel
theorem d_Md_goesOn_62 : decode c_Md_goesOn 62 = .ok (.iload 4, 2) := by decide +kernel
theorem d_Md_goesOn_64 : decode c_Md_goesOn 64 = .ok (.iaload, 1) := by decide +kernel
theorem d_Md_goesOn_65 : decode c_Md_goesOn 65 = .ok (.iload_n 2, 1) := by decide +kernel
theorem d_Md_goesOn_66 : decode c_Md_goesOn 66 = .ok (.iload_n 3, 1) := by decide +kernel
theorem d_Md_goesOn_67 : decode c_Md_goesOn 67 = .ok (.invokevirtual 266, 3) := by decide +kernel
theorem d_Md_goesOn_70 : decode c_Md_goesOn 70 = .ok (.iastore, 1) := by decide +kernel
theorem d_Md_goesOn_71 : decode c_Md_goesOn 71 = .ok (.goto 6, 3) := by decide +kernel
theorem d_Md_goesOn_74 : decode c_Md_goesOn 74 = .ok (.iconst (-1), 1) := by decide +kernel
theorem d_Md_goesOn_75 : decode c_Md_goesOn 75 = .ok (.istore 4, 2) := by decide +kernel
theorem d_Md_goesOn_77 : decode c_Md_goesOn 77 = .ok (.iload 4, 2) := by decide +kernel
theorem d_Md_goesOn_79 : decode c_Md_goesOn 79 = .ok (.iconst 1, 1) := by decide +kernel
theorem d_Md_goesOn_80 : decode c_Md_goesOn 80 = .ok (.iadd, 1) := by decide +kernel
theorem d_Md_goesOn_81 : decode c_Md_goesOn 81 = .ok (.istore 5, 2) := by decide +kernel
theorem d_Md_goesOn_83 : decode c_Md_goesOn 83 = .ok (.iload 5, 2) := by decide +kernel
theorem d_Md_goesOn_85 : decode c_Md_goesOn 85 = .ok (.aload_n 0, 1) := by decide +kernel
theorem d_Md_goesOn_86 : decode c_Md_goesOn 86 = .ok (.getfield 259, 3) := by decide +kernel
theorem d_Md_goesOn_89 : decode c_Md_goesOn 89 = .ok (.if_icmp .ge 38, 3) := by decide +kernel
theorem d_Md_goesOn_92 : decode c_Md_goesOn 92 = .ok (.aload_n 0, 1) := by decide +kernel
theorem d_Md_goesOn_93 : decode c_Md_goesOn 93 = .ok (.getfield 49, 3) := by decide +kernel
theorem d_Md_goesOn_96 : decode c_Md_goesOn 96 = .ok (.iload 5, 2) := by decide +kernel
theorem d_Md_goesOn_98 : decode c_Md_goesOn 98 = .ok (.aload_n 0, 1) := by decide +kernel
theorem d_Md_goesOn_99 : decode c_Md_goesOn 99 = .ok (.iload 5, 2) := by decide +kernel
theorem d_Md_goesOn_101 : decode c_Md_goesOn 101 = .ok (.iconst (-1), 1) := by decide +kernel
theorem d_Md_goesOn_102 : decode c_Md_goesOn 102 = .ok (.iload_n 2, 1) := by decide +kernel
theorem d_Md_goesOn_103 : decode c_Md_goesOn 103 = .ok (.iload_n 3, 1) := by decide +kernel
theorem d_Md_goesOn_104 : decode c_Md_goesOn 104 = .ok (.invokevirtual 266, 3) := by decide +kernel
theorem d_Md_goesOn_107 : decode c_Md_goesOn 107 = .ok (.iastore, 1) := by decide +kernel
theorem d_Md_goesOn_108 : decode c_Md_goesOn 108 = .ok (.aload_n 0, 1) := by decide +kernel
theorem d_Md_goesOn_109 : decode c_Md_goesOn 109 = .ok (.getfield 49, 3) := by decide +kernel
theorem d_Md_goesOn_112 : decode c_Md_goesOn 112 = .ok (.iload 5, 2) := by decide +kernel
theorem d_Md_goesOn_114 : decode c_Md_goesOn 114 = .ok (.iaload, 1) := by decide +kernel
theorem d_Md_goesOn_115 : decode c_Md_goesOn 115 = .ok (.iconst (-1), 1) := by decide +kernel
theorem d_Md_goesOn_116 : decode c_Md_goesOn 116 = .ok (.if_icmp .ne 5, 3) := by decide +kernel
theorem d_Md_goesOn_119 : decode c_Md_goesOn 119 = .ok (.iconst 0, 1) := by decide +kernel
theorem d_Md_goesOn_120 : decode c_Md_goesOn 120 = .ok (.ireturn, 1) := by decide +kernel
theorem d_Md_goesOn_121 : decode c_Md_goesOn 121 = .ok (.iinc 5 1, 3) := by decide +kernel
theorem d_Md_goesOn_124 : decode c_Md_goesOn 124 = .ok (.goto (-41), 3) := by decide +kernel
theorem d_Md_goesOn_127 : decode c_Md_goesOn 127 = .ok (.iconst 1, 1) := by decide +kernel
theorem d_Md_goesOn_128 : decode c_Md_goesOn 128 = .ok (.ireturn, 1) := by decide +kernel
theorem d_Md_rowCost_0 : decode c_Md_rowCost 0 = .ok (.iconst 0, 1) := by decide +kernel
theorem d_Md_rowCost_1 : decode c_Md_rowCost 1 = .ok (.istore_n 1, 1) := by decide +kernel
theorem d_Md_rowCost_2 : decode c_Md_rowCost 2 = .ok (.iconst 0, 1) := by decide +kernel
theorem d_Md_rowCost_3 : decode c_Md_rowCost 3 = .ok (.istore_n 2, 1) := by decide +kernel
theorem d_Md_rowCost_4 : decode c_Md_rowCost 4 = .ok (.iload_n 2, 1) := by decide +kernel
theorem d_Md_rowCost_5 : decode c_Md_rowCost 5 = .ok (.aload_n 0, 1) := by decide +kernel
theorem d_Md_rowCost_6 : decode c_Md_rowCost 6 = .ok (.getfield 259, 3) := by decide +kernel
theorem d_Md_rowCost_9 : decode c_Md_rowCost 9 = .ok (.if_icmp .ge 29, 3) := by decide +kernel
theorem d_Md_rowCost_12 : decode c_Md_rowCost 12 = .ok (.iload_n 1, 1) := by decide +kernel
theorem d_Md_rowCost_13 : decode c_Md_rowCost 13 = .ok (.aload_n 0, 1) := by decide +kernel
theorem d_Md_rowCost_14 : decode c_Md_rowCost 14 = .ok (.aload_n 0, 1) := by decide +kernel
theorem d_Md_rowCost_15 : decode c_Md_rowCost 15 = .ok (.getfield 49, 3) := by decide +kernel
theorem d_Md_rowCost_18 : decode c_Md_rowCost 18 = .ok (.iload_n 2, 1) := by decide +kernel
theorem d_Md_rowCost_19 : decode c_Md_rowCost 19 = .ok (.iaload, 1) := by decide +kernel
theorem d_Md_rowCost_20 : decode c_Md_rowCost 20 = .ok (.iconst 0, 1) := by decide +kernel
theorem d_Md_rowCost_21 : decode c_Md_rowCost 21 = .ok (.aload_n 0, 1) := by decide +kernel
theorem d_Md_rowCost_22 : decode c_Md_rowCost 22 = .ok (.getfield 43, 3) := by decide +kernel
theorem d_Md_rowCost_25 : decode c_Md_rowCost 25 = .ok (.iload_n 2, 1) := by decide +kernel
theorem d_Md_rowCost_26 : decode c_Md_rowCost 26 = .ok (.iaload, 1) := by decide +kernel
theorem d_Md_rowCost_27 : decode c_Md_rowCost 27 = .ok (.invokevirtual 195, 3) := by decide +kernel
theorem d_Md_rowCost_30 : decode c_Md_rowCost 30 = .ok (.iadd, 1) := by decide +kernel
theorem d_Md_rowCost_31 : decode c_Md_rowCost 31 = .ok (.istore_n 1, 1) := by decide +kernel
theorem d_Md_rowCost_32 : decode c_Md_rowCost 32 = .ok (.iinc 2 1, 3) := by decide +kernel
theorem d_Md_rowCost_35 : decode c_Md_rowCost 35 = .ok (.goto (-31), 3) := by decide +kernel
theorem d_Md_rowCost_38 : decode c_Md_rowCost 38 = .ok (.iload_n 1, 1) := by decide +kernel
theorem d_Md_rowCost_39 : decode c_Md_rowCost 39 = .ok (.ireturn, 1) := by decide +kernel
theorem d_Md_rowTime_0 : decode c_Md_rowTime 0 = .ok (.iconst 0, 1) := by decide +kernel
theorem d_Md_rowTime_1 : decode c_Md_rowTime 1 = .ok (.istore_n 1, 1) := by decide +kernel
theorem d_Md_rowTime_2 : decode c_Md_rowTime 2 = .ok (.iload_n 1, 1) := by decide +kernel
theorem d_Md_rowTime_3 : decode c_Md_rowTime 3 = .ok (.bipush 9, 2) := by decide +kernel
theorem d_Md_rowTime_5 : decode c_Md_rowTime 5 = .ok (.if_icmp .ge 16, 3) := by decide +kernel
theorem d_Md_rowTime_8 : decode c_Md_rowTime 8 = .ok (.aload_n 0, 1) := by decide +kernel
theorem d_Md_rowTime_9 : decode c_Md_rowTime 9 = .ok (.getfield 55, 3) := by decide +kernel
theorem d_Md_rowTime_12 : decode c_Md_rowTime 12 = .ok (.iload_n 1, 1) := by decide +kernel
theorem d_Md_rowTime_13 : decode c_Md_rowTime 13 = .ok (.iconst 0, 1) := by decide +kernel
theorem d_Md_rowTime_14 : decode c_Md_rowTime 14 = .ok (.iastore, 1) := by decide +kernel
theorem d_Md_rowTime_15 : decode c_Md_rowTime 15 = .ok (.iinc 1 1, 3) := by decide +kernel
theorem d_Md_rowTime_18 : decode c_Md_rowTime 18 = .ok (.goto (-16), 3) := by decide +kernel
theorem d_Md_rowTime_21 : decode c_Md_rowTime 21 = .ok (.iconst 0, 1) := by decide +kernel
theorem d_Md_rowTime_22 : decode c_Md_rowTime 22 = .ok (.istore_n 1, 1) := by decide +kernel
theorem d_Md_rowTime_23 : decode c_Md_rowTime 23 = .ok (.iconst 0, 1) := by decide +kernel
theorem d_Md_rowTime_24 : decode c_Md_rowTime 24 = .ok (.istore_n 2, 1) := by decide +kernel
theorem d_Md_rowTime_25 : decode c_Md_rowTime 25 = .ok (.iload_n 2, 1) := by decide +kernel
theorem d_Md_rowTime_26 : decode c_Md_rowTime 26 = .ok (.aload_n 0, 1) := by decide +kernel
theorem d_Md_rowTime_27 : decode c_Md_rowTime 27 = .ok (.getfield 259, 3) := by decide +kernel
theorem d_Md_rowTime_30 : decode c_Md_rowTime 30 = .ok (.if_icmp .ge 70, 3) := by decide +kernel
theorem d_Md_rowTime_33 : decode c_Md_rowTime 33 = .ok (.aload_n 0, 1) := by decide +kernel
theorem d_Md_rowTime_34 : decode c_Md_rowTime 34 = .ok (.getfield 49, 3) := by decide +kernel
theorem d_Md_rowTime_37 : decode c_Md_rowTime 37 = .ok (.iload_n 2, 1) := by decide +kernel
theorem d_Md_rowTime_38 : decode c_Md_rowTime 38 = .ok (.iaload, 1) := by decide +kernel
theorem d_Md_rowTime_39 : decode c_Md_rowTime 39 = .ok (.istore_n 3, 1) := by decide +kernel
theorem d_Md_rowTime_40 : decode c_Md_rowTime 40 = .ok (.aload_n 0, 1) := by decide +kernel
theorem d_Md_rowTime_41 : decode c_Md_rowTime 41 = .ok (.getfield 55, 3) := by decide +kernel
theorem d_Md_rowTime_44 : decode c_Md_rowTime 44 = .ok (.iload_n 3, 1) := by decide +kernel
theorem d_Md_rowTime_45 : decode c_Md_rowTime 45 = .ok (.dup2, 1) := by decide +kernel
theorem d_Md_rowTime_46 : decode c_Md_rowTime 46 = .ok (.iaload, 1) := by decide +kernel
theorem d_Md_rowTime_47 : decode c_Md_rowTime 47 = .ok (.iconst 1, 1) := by decide +kernel
theorem d_Md_rowTime_48 : decode c_Md_rowTime 48 = .ok (.iadd, 1) := by decide +kernel
theorem d_Md_rowTime_49 : decode c_Md_rowTime 49 = .ok (.iastore, 1) := by decide +kernel
theorem d_Md_rowTime_50 : decode c_Md_rowTime 50 = .ok (.aload_n 0, 1) := by decide +kernel
theorem d_Md_rowTime_51 : decode c_Md_rowTime 51 = .ok (.getfield 55, 3) := by decide +kernel
theorem d_Md_rowTime_54 : decode c_Md_rowTime 54 = .ok (.iload_n 3, 1) := by decide +kernel
theorem d_Md_rowTime_55 : decode c_Md_rowTime 55 = .ok (.iaload, 1) := by decide +kernel
theorem d_Md_rowTime_56 : decode c_Md_rowTime 56 = .ok (.aload_n 0, 1) := by decide +kernel
theorem d_Md_rowTime_57 : decode c_Md_rowTime 57 = .ok (.iload_n 3, 1) := by decide +kernel
theorem d_Md_rowTime_58 : decode c_Md_rowTime 58 = .ok (.iconst 0, 1) := by decide +kernel
theorem d_Md_rowTime_59 : decode c_Md_rowTime 59 = .ok (.invokevirtual 192, 3) := by decide +kernel
theorem d_Md_rowTime_62 : decode c_Md_rowTime 62 = .ok (.imul, 1) := by decide +kernel
theorem d_Md_rowTime_63 : decode c_Md_rowTime 63 = .ok (.aload_n 0, 1) := by decide +kernel
theorem d_Md_rowTime_64 : decode c_Md_rowTime 64 = .ok (.getfield 55, 3) := by decide +kernel
theorem d_Md_rowTime_67 : decode c_Md_rowTime 67 = .ok (.iload_n 3, 1) := by decide +kernel
theorem d_Md_rowTime_68 : decode c_Md_rowTime 68 = .ok (.iaload, 1) := by decide +kernel
theorem d_Md_rowTime_69 : decode c_Md_rowTime 69 = .ok (.iconst 1, 1) := by decide +kernel
theorem d_Md_rowTime_70 : decode c_Md_rowTime 70 = .ok (.isub, 1) := by decide +kernel
theorem d_Md_rowTime_71 : decode c_Md_rowTime 71 = .ok (.aload_n 0, 1) := by decide +kernel
theorem d_Md_rowTime_72 : decode c_Md_rowTime 72 = .ok (.iload_n 3, 1) := by decide +kernel
theorem d_Md_rowTime_73 : decode c_Md_rowTime 73 = .ok (.iconst 1, 1) := by decide +kernel
theorem d_Md_rowTime_74 : decode c_Md_rowTime 74 = .ok (.invokevirtual 192, 3) := by decide +kernel
theorem d_Md_rowTime_77 : decode c_Md_rowTime 77 = .ok (.imul, 1) := by decide +kernel
theorem d_Md_rowTime_78 : decode c_Md_rowTime 78 = .ok (.iadd, 1) := by decide +kernel
theorem d_Md_rowTime_79 : decode c_Md_rowTime 79 = .ok (.istore 4, 2) := by decide +kernel
theorem d_Md_rowTime_81 : decode c_Md_rowTime 81 = .ok (.iload 4, 2) := by decide +kernel
theorem d_Md_rowTime_83 : decode c_Md_rowTime 83 = .ok (.iload_n 1, 1) := by decide +kernel
theorem d_Md_rowTime_84 : decode c_Md_rowTime 84 = .ok (.if_icmp .le 8, 3) := by decide +kernel
theorem d_Md_rowTime_87 : decode c_Md_rowTime 87 = .ok (.iload 4, 2) := by decide +kernel
theorem d_Md_rowTime_89 : decode c_Md_rowTime 89 = .ok (.goto 4, 3) := by decide +kernel
theorem d_Md_rowTime_92 : decode c_Md_rowTime 92 = .ok (.iload_n 1, 1) := by decide +kernel
theorem d_Md_rowTime_93 : decode c_Md_rowTime 93 = .ok (.istore_n 1, 1) := by decide +kernel
theorem d_Md_rowTime_94 : decode c_Md_rowTime 94 = .ok (.iinc 2 1, 3) := by decide +kernel
theorem d_Md_rowTime_97 : decode c_Md_rowTime 97 = .ok (.goto (-72), 3) := by decide +kernel
theorem d_Md_rowTime_100 : decode c_Md_rowTime 100 = .ok (.iload_n 1, 1) := by decide +kernel
theorem d_Md_rowTime_101 : decode c_Md_rowTime 101 = .ok (.ireturn, 1) := by decide +kernel
theorem d_Md_findSent_0 : decode c_Md_findSent 0 = .ok (.aload_n 0, 1) := by decide +kernel
theorem d_Md_findSent_1 : decode c_Md_findSent 1 = .ok (.iconst (-1), 1) := by decide +kernel
theorem d_Md_findSent_2 : decode c_Md_findSent 2 = .ok (.putfield 270, 3) := by decide +kernel
theorem d_Md_findSent_5 : decode c_Md_findSent 5 = .ok (.aload_n 0, 1) := by decide +kernel
theorem d_Md_findSent_6 : decode c_Md_findSent 6 = .ok (.iconst (-1), 1) := by decide +kernel
theorem d_Md_findSent_7 : decode c_Md_findSent 7 = .ok (.putfield 273, 3) := by decide +kernel
theorem d_Md_findSent_10 : decode c_Md_findSent 10 = .ok (.aload_n 0, 1) := by decide +kernel
theorem d_Md_findSent_11 : decode c_Md_findSent 11 = .ok (.iconst 1, 1) := by decide +kernel
theorem d_Md_findSent_12 : decode c_Md_findSent 12 = .ok (.iload_n 1, 1) := by decide +kernel
theorem d_Md_findSent_13 : decode c_Md_findSent 13 = .ok (.iload_n 2, 1) := by decide +kernel
theorem d_Md_findSent_14 : decode c_Md_findSent 14 = .ok (.invokevirtual 276, 3) := by decide +kernel
theorem d_Md_findSent_17 : decode c_Md_findSent 17 = .ok (.istore_n 3, 1) := by decide +kernel
theorem d_Md_findSent_18 : decode c_Md_findSent 18 = .ok (.iload_n 3, 1) := by decide +kernel
theorem d_Md_findSent_19 : decode c_Md_findSent 19 = .ok (.ifCond .eq 96, 3) := by decide +kernel
theorem d_Md_findSent_22 : decode c_Md_findSent 22 = .ok (.aload_n 0, 1) := by decide +kernel
theorem d_Md_findSent_23 : decode c_Md_findSent 23 = .ok (.invokevirtual 280, 3) := by decide +kernel
theorem d_Md_findSent_26 : decode c_Md_findSent 26 = .ok (.istore 4, 2) := by decide +kernel
theorem d_Md_findSent_28 : decode c_Md_findSent 28 = .ok (.aload_n 0, 1) := by decide +kernel
theorem d_Md_findSent_29 : decode c_Md_findSent 29 = .ok (.getfield 270, 3) := by decide +kernel
theorem d_Md_findSent_32 : decode c_Md_findSent 32 = .ok (.iconst (-1), 1) := by decide +kernel
theorem d_Md_findSent_33 : decode c_Md_findSent 33 = .ok (.if_icmp .eq 12, 3) := by decide +kernel
theorem d_Md_findSent_36 : decode c_Md_findSent 36 = .ok (.iload 4, 2) := by decide +kernel
theorem d_Md_findSent_38 : decode c_Md_findSent 38 = .ok (.aload_n 0, 1) := by decide +kernel
theorem d_Md_findSent_39 : decode c_Md_findSent 39 = .ok (.getfield 270, 3) := by decide +kernel
theorem d_Md_findSent_42 : decode c_Md_findSent 42 = .ok (.if_icmp .ge 62, 3) := by decide +kernel
theorem d_Md_findSent_45 : decode c_Md_findSent 45 = .ok (.aload_n 0, 1) := by decide +kernel
theorem d_Md_findSent_46 : decode c_Md_findSent 46 = .ok (.invokevirtual 283, 3) := by decide +kernel
theorem d_Md_findSent_49 : decode c_Md_findSent 49 = .ok (.aload_n 0, 1) := by decide +kernel
theorem d_Md_findSent_50 : decode c_Md_findSent 50 = .ok (.getfield 34, 3) := by decide +kernel
theorem d_Md_findSent_53 : decode c_Md_findSent 53 = .ok (.iconst 2, 1) := by decide +kernel
theorem d_Md_findSent_54 : decode c_Md_findSent 54 = .ok (.iaload, 1) := by decide +kernel
theorem d_Md_findSent_55 : decode c_Md_findSent 55 = .ok (.if_icmp .gt 49, 3) := by decide +kernel
theorem d_Md_findSent_58 : decode c_Md_findSent 58 = .ok (.aload_n 0, 1) := by decide +kernel
theorem d_Md_findSent_59 : decode c_Md_findSent 59 = .ok (.iload 4, 2) := by decide +kernel
theorem d_Md_findSent_61 : decode c_Md_findSent 61 = .ok (.putfield 270, 3) := by decide +kernel
theorem d_Md_findSent_64 : decode c_Md_findSent 64 = .ok (.aload_n 0, 1) := by decide +kernel
theorem d_Md_findSent_65 : decode c_Md_findSent 65 = .ok (.aload_n 0, 1) := by decide +kernel
theorem d_Md_findSent_66 : decode c_Md_findSent 66 = .ok (.invokevirtual 283, 3) := by decide +kernel
theorem d_Md_findSent_69 : decode c_Md_findSent 69 = .ok (.putfield 273, 3) := by decide +kernel
theorem d_Md_findSent_72 : decode c_Md_findSent 72 = .ok (.iconst 0, 1) := by decide +kernel
theorem d_Md_findSent_73 : decode c_Md_findSent 73 = .ok (.istore 5, 2) := by decide +kernel
theorem d_Md_findSent_75 : decode c_Md_findSent 75 = .ok (.iload 5, 2) := by decide +kernel
theorem d_Md_findSent_77 : decode c_Md_findSent 77 = .ok (.aload_n 0, 1) := by decide +kernel
theorem d_Md_findSent_78 : decode c_Md_findSent 78 = .ok (.getfield 259, 3) := by decide +kernel
theorem d_Md_findSent_81 : decode c_Md_findSent 81 = .ok (.if_icmp .ge 23, 3) := by decide +kernel
theorem d_Md_findSent_84 : decode c_Md_findSent 84 = .ok (.aload_n 0, 1) := by decide +kernel
theorem d_Md_findSent_85 : decode c_Md_findSent 85 = .ok (.getfield 52, 3) := by decide +kernel
theorem d_Md_findSent_88 : decode c_Md_findSent 88 = .ok (.iload 5, 2) := by decide +kernel
theorem d_Md_findSent_90 : decode c_Md_findSent 90 = .ok (.aload_n 0, 1) := by decide +kernel
theorem d_Md_findSent_91 : decode c_Md_findSent 91 = .ok (.getfield 49, 3) := by decide +kernel
theorem d_Md_findSent_94 : decode c_Md_findSent 94 = .ok (.iload 5, 2) := by decide +kernel
theorem d_Md_findSent_96 : decode c_Md_findSent 96 = .ok (.iaload, 1) := by decide +kernel
theorem d_Md_findSent_97 : decode c_Md_findSent 97 = .ok (.iastore, 1) := by decide +kernel
theorem d_Md_findSent_98 : decode c_Md_findSent 98 = .ok (.iinc 5 1, 3) := by decide +kernel
theorem d_Md_findSent_101 : decode c_Md_findSent 101 = .ok (.goto (-26), 3) := by decide +kernel
theorem d_Md_findSent_104 : decode c_Md_findSent 104 = .ok (.aload_n 0, 1) := by decide +kernel
theorem d_Md_findSent_105 : decode c_Md_findSent 105 = .ok (.iconst 0, 1) := by decide +kernel
theorem d_Md_findSent_106 : decode c_Md_findSent 106 = .ok (.iload_n 1, 1) := by decide +kernel
theorem d_Md_findSent_107 : decode c_Md_findSent 107 = .ok (.iload_n 2, 1) := by decide +kernel
theorem d_Md_findSent_108 : decode c_Md_findSent 108 = .ok (.invokevirtual 276, 3) := by decide +kernel
theorem d_Md_findSent_111 : decode c_Md_findSent 111 = .ok (.istore_n 3, 1) := by decide +kernel
theorem d_Md_findSent_112 : decode c_Md_findSent 112 = .ok (.goto (-94), 3) := by decide +kernel
theorem d_Md_findSent_115 : decode c_Md_findSent 115 = .ok (.return_, 1) := by decide +kernel
theorem d_Md_sent_0 : decode c_Md_sent 0 = .ok (.iload_n 1, 1) := by decide +kernel
theorem d_Md_sent_1 : decode c_Md_sent 1 = .ok (.i2l, 1) := by decide +kernel
theorem d_Md_sent_2 : decode c_Md_sent 2 = .ok (.ldc2_w 286, 3) := by decide +kernel
theorem d_Md_sent_5 : decode c_Md_sent 5 = .ok (.aload_n 0, 1) := by decide +kernel
theorem d_Md_sent_6 : decode c_Md_sent 6 = .ok (.getfield 259, 3) := by decide +kernel
theorem d_Md_sent_9 : decode c_Md_sent 9 = .ok (.iconst 1, 1) := by decide +kernel
theorem d_Md_sent_10 : decode c_Md_sent 10 = .ok (.isub, 1) := by decide +kernel
theorem d_Md_sent_11 : decode c_Md_sent 11 = .ok (.i2l, 1) := by decide +kernel
theorem d_Md_sent_12 : decode c_Md_sent 12 = .ok (.invokestatic 73, 3) := by decide +kernel
theorem d_Md_sent_15 : decode c_Md_sent 15 = .ok (.ifCond .ne 6, 3) := by decide +kernel
theorem d_Md_sent_18 : decode c_Md_sent 18 = .ok (.bipush (-2), 2) := by decide +kernel
theorem d_Md_sent_20 : decode c_Md_sent 20 = .ok (.ireturn, 1) := by decide +kernel
theorem d_Md_sent_21 : decode c_Md_sent 21 = .ok (.aload_n 0, 1) := by decide +kernel
theorem d_Md_sent_22 : decode c_Md_sent 22 = .ok (.invokevirtual 137, 3) := by decide +kernel
theorem d_Md_sent_25 : decode c_Md_sent 25 = .ok (.pop, 1) := by decide +kernel
theorem d_Md_sent_26 : decode c_Md_sent 26 = .ok (.aload_n 0, 1) := by decide +kernel
theorem d_Md_sent_27 : decode c_Md_sent 27 = .ok (.aload_n 0, 1) := by decide +kernel
theorem d_Md_sent_28 : decode c_Md_sent 28 = .ok (.getfield 114, 3) := by decide +kernel
theorem d_Md_sent_31 : decode c_Md_sent 31 = .ok (.iconst (-1), 1) := by decide +kernel
theorem d_Md_sent_32 : decode c_Md_sent 32 = .ok (.invokevirtual 288, 3) := by decide +kernel
theorem d_Md_sent_35 : decode c_Md_sent 35 = .ok (.iload_n 1, 1) := by decide +kernel
theorem d_Md_sent_36 : decode c_Md_sent 36 = .ok (.bipush (-2), 2) := by decide +kernel
theorem d_Md_sent_38 : decode c_Md_sent 38 = .ok (.if_icmp .ne 10, 3) := by decide +kernel
theorem d_Md_sent_41 : decode c_Md_sent 41 = .ok (.aload_n 0, 1) := by decide +kernel
theorem d_Md_sent_42 : decode c_Md_sent 42 = .ok (.getfield 273, 3) := by decide +kernel
theorem d_Md_sent_45 : decode c_Md_sent 45 = .ok (.goto 29, 3) := by decide +kernel
theorem d_Md_sent_48 : decode c_Md_sent 48 = .ok (.iload_n 1, 1) := by decide +kernel
theorem d_Md_sent_49 : decode c_Md_sent 49 = .ok (.iconst (-1), 1) := by decide +kernel
theorem d_Md_sent_50 : decode c_Md_sent 50 = .ok (.if_icmp .eq 11, 3) := by decide +kernel
theorem d_Md_sent_53 : decode c_Md_sent 53 = .ok (.aload_n 0, 1) := by decide +kernel
theorem d_Md_sent_54 : decode c_Md_sent 54 = .ok (.getfield 270, 3) := by decide +kernel
theorem d_Md_sent_57 : decode c_Md_sent 57 = .ok (.iconst (-1), 1) := by decide +kernel
theorem d_Md_sent_58 : decode c_Md_sent 58 = .ok (.if_icmp .ne 10, 3) := by decide +kernel
theorem d_Md_sent_61 : decode c_Md_sent 61 = .ok (.aload_n 0, 1) := by decide +kernel
theorem d_Md_sent_62 : decode c_Md_sent 62 = .ok (.getfield 270, 3) := by decide +kernel
theorem d_Md_sent_65 : decode c_Md_sent 65 = .ok (.goto 9, 3) := by decide +kernel
theorem d_Md_sent_68 : decode c_Md_sent 68 = .ok (.aload_n 0, 1) := by decide +kernel
theorem d_Md_sent_69 : decode c_Md_sent 69 = .ok (.getfield 52, 3) := by decide +kernel
theorem d_Md_sent_72 : decode c_Md_sent 72 = .ok (.iload_n 1, 1) := by decide +kernel
theorem d_Md_sent_73 : decode c_Md_sent 73 = .ok (.iaload, 1) := by decide +kernel
theorem d_Md_sent_74 : decode c_Md_sent 74 = .ok (.ireturn, 1) := by decide +kernel
theorem d_Md_cutOf_0 : decode c_Md_cutOf 0 = .ok (.aload_n 0, 1) := by decide +kernel
theorem d_Md_cutOf_1 : decode c_Md_cutOf 1 = .ok (.aload_n 0, 1) := by decide +kernel
theorem d_Md_cutOf_2 : decode c_Md_cutOf 2 = .ok (.getfield 114, 3) := by decide +kernel
theorem d_Md_cutOf_5 : decode c_Md_cutOf 5 = .ok (.iconst (-1), 1) := by decide +kernel
theorem d_Md_cutOf_6 : decode c_Md_cutOf 6 = .ok (.invokevirtual 288, 3) := by decide +kernel
theorem d_Md_cutOf_9 : decode c_Md_cutOf 9 = .ok (.aload_n 0, 1) := by decide +kernel
theorem d_Md_cutOf_10 : decode c_Md_cutOf 10 = .ok (.getfield 270, 3) := by decide +kernel
theorem d_Md_cutOf_13 : decode c_Md_cutOf 13 = .ok (.istore_n 2, 1) := by decide +kernel
theorem d_Md_cutOf_14 : decode c_Md_cutOf 14 = .ok (.aload_n 0, 1) := by decide +kernel
theorem d_Md_cutOf_15 : decode c_Md_cutOf 15 = .ok (.aload_n 0, 1) := by decide +kernel
theorem d_Md_cutOf_16 : decode c_Md_cutOf 16 = .ok (.getfield 114, 3) := by decide +kernel
theorem d_Md_cutOf_19 : decode c_Md_cutOf 19 = .ok (.iload_n 1, 1) := by decide +kernel
theorem d_Md_cutOf_20 : decode c_Md_cutOf 20 = .ok (.invokevirtual 288, 3) := by decide +kernel
theorem d_Md_cutOf_23 : decode c_Md_cutOf 23 = .ok (.iload_n 2, 1) := by decide +kernel
theorem d_Md_cutOf_24 : decode c_Md_cutOf 24 = .ok (.iconst (-1), 1) := by decide +kernel
theorem d_Md_cutOf_25 : decode c_Md_cutOf 25 = .ok (.if_icmp .eq 11, 3) := by decide +kernel
theorem d_Md_cutOf_28 : decode c_Md_cutOf 28 = .ok (.aload_n 0, 1) := by decide +kernel
theorem d_Md_cutOf_29 : decode c_Md_cutOf 29 = .ok (.getfield 270, 3) := by decide +kernel
theorem d_Md_cutOf_32 : decode c_Md_cutOf 32 = .ok (.iconst (-1), 1) := by decide +kernel
theorem d_Md_cutOf_33 : decode c_Md_cutOf 33 = .ok (.if_icmp .ne 8, 3) := by decide +kernel
theorem d_Md_cutOf_36 : decode c_Md_cutOf 36 = .ok (.bipush (-3), 2) := by decide +kernel
theorem d_Md_cutOf_38 : decode c_Md_cutOf 38 = .ok (.goto 9, 3) := by decide +kernel
theorem d_Md_cutOf_41 : decode c_Md_cutOf 41 = .ok (.aload_n 0, 1) := by decide +kernel
theorem d_Md_cutOf_42 : decode c_Md_cutOf 42 = .ok (.getfield 270, 3) := by decide +kernel
theorem d_Md_cutOf_45 : decode c_Md_cutOf 45 = .ok (.iload_n 2, 1) := by decide +kernel
theorem d_Md_cutOf_46 : decode c_Md_cutOf 46 = .ok (.isub, 1) := by decide +kernel
theorem d_Md_cutOf_47 : decode c_Md_cutOf 47 = .ok (.ireturn, 1) := by decide +kernel
theorem d_Md_cut_0 : decode c_Md_cut 0 = .ok (.aload_n 0, 1) := by decide +kernel
theorem d_Md_cut_1 : decode c_Md_cut 1 = .ok (.iload_n 1, 1) := by decide +kernel
theorem d_Md_cut_2 : decode c_Md_cut 2 = .ok (.invokevirtual 143, 3) := by decide +kernel
theorem d_Md_cut_5 : decode c_Md_cut 5 = .ok (.ifCond .eq 11, 3) := by decide +kernel
theorem d_Md_cut_8 : decode c_Md_cut 8 = .ok (.aload_n 0, 1) := by decide +kernel
theorem d_Md_cut_9 : decode c_Md_cut 9 = .ok (.iload_n 1, 1) := by decide +kernel
theorem d_Md_cut_10 : decode c_Md_cut 10 = .ok (.invokevirtual 291, 3) := by decide +kernel
theorem d_Md_cut_13 : decode c_Md_cut 13 = .ok (.goto 5, 3) := by decide +kernel
theorem d_Md_cut_16 : decode c_Md_cut 16 = .ok (.bipush (-2), 2) := by decide +kernel
theorem d_Md_cut_18 : decode c_Md_cut 18 = .ok (.ireturn, 1) := by decide +kernel
def f_Md_goesOn_83 : Nat → Sg → Int32 → Int32 → Int32 → Option (Int32 × Sg)
  | 0, _, _, _, _ => none
  | n + 1, σ, v2, v3, v5 =>
    if (σ.1 66 18) ≤ v5 then
      some (1, σ)
    else
      (f_Md_nextRope σ v5 (-1) v2 v3).bind fun r4 =>
        gd (vin v5 5) (
          gd (vin v5 5) (
            if ((pI σ 80 v5.toNatClampNeg r4).1 80 v5.toNatClampNeg) = (-1) then some (0, (pI σ 80 v5.toNatClampNeg r4)) else f_Md_goesOn_83 n (pI σ 80 v5.toNatClampNeg r4) v2 v3 (v5 + 1)))
theorem f_Md_goesOn_83_s (n : Nat) (σ : Sg) (v2 : Int32) (v3 : Int32) (v5 : Int32) : f_Md_goesOn_83 (n + 1) σ v2 v3 v5 =
    if (σ.1 66 18) ≤ v5 then
      some (1, σ)
    else
      (f_Md_nextRope σ v5 (-1) v2 v3).bind fun r4 =>
        gd (vin v5 5) (
          gd (vin v5 5) (
            if ((pI σ 80 v5.toNatClampNeg r4).1 80 v5.toNatClampNeg) = (-1) then some (0, (pI σ 80 v5.toNatClampNeg r4)) else f_Md_goesOn_83 n (pI σ 80 v5.toNatClampNeg r4) v2 v3 (v5 + 1))) := rfl
set_option maxHeartbeats 4000000 in
theorem j_Md_goesOn_83 {V : Vx} {X : Xx} {r : Int32} {σ' : Sg}  : ∀ (n : Nat) (σ : Sg) (v2 : Int32) (v3 : Int32) (v5 : Int32), f_Md_goesOn_83 n σ v2 v3 v5 = some (r, σ') → J V X (k2_rm 2 48) c_Md_goesOn R_Md 6 (some .boolean) (Qr V X (some (.int r)) σ') σ 83 [(0, rf V 66), (2, .int v2), (3, .int v3), (5, .int v5)] [] := by
  intro n
  induction n with
  | zero => intro σ v2 v3 v5 hf; exact nn hf
  | succ n ih =>
    intro σ v2 v3 v5 hf
    rw [f_Md_goesOn_83_s] at hf
    refine J_iload (pc' := 85) d_Md_goesOn_83 rfl 3 rfl ?_
    refine J_aload_n (pc' := 86) d_Md_goesOn_85 rfl 0 rfl ?_
    refine J_getI (pc' := 89) d_Md_goesOn_86 rfl sh_66 fl_Md_259 rfl ?_
    refine J_icmp_ge (pc' := 92) (tgt := 127) d_Md_goesOn_89 rfl (by decide) (fun hc2 => ?_) (fun hc2 => ?_)
    · have hf := brT hc2 hf
      refine J_iconst (pc' := 128) (v := 1) d_Md_goesOn_127 rfl ic_1 ?_
      obtain ⟨rfl, rfl⟩ := resE hf
      exact J_zret (by decide) d_Md_goesOn_128
    · have hf := brF hc2 hf
      refine J_aload_n (pc' := 93) d_Md_goesOn_92 rfl 0 rfl ?_
      refine J_getR (pc' := 96) d_Md_goesOn_93 rfl sh_66 fl_Md_49 rfl ?_
      refine J_iload (pc' := 98) d_Md_goesOn_96 rfl 3 rfl ?_
      refine J_aload_n (pc' := 99) d_Md_goesOn_98 rfl 0 rfl ?_
      refine J_iload (pc' := 101) d_Md_goesOn_99 rfl 3 rfl ?_
      refine J_iconst (pc' := 102) (v := (-1)) d_Md_goesOn_101 rfl ic_m1 ?_
      refine J_iload_n (pc' := 103) d_Md_goesOn_102 rfl 1 rfl ?_
      refine J_iload_n (pc' := 104) d_Md_goesOn_103 rfl 2 rfl ?_
      obtain ⟨r4, hq3, hf⟩ := bpE hf
      refine J_V (pc' := 107) (as := [.int v5, .int (-1), .int v2, .int v3]) (rest := [.int v5, rf V 80]) (st' := [.int r4, .int v5, rf V 80]) d_Md_goesOn_104 rfl sh_66 rfl mv_Md_266 (ct_Md_nextRope V _ σ v5 (-1) v2 v3 hq3) rfl rfl ⟨Nat.le_of_ble_eq_true rfl, Nat.le_of_ble_eq_true rfl⟩ ⟨rfl, rfl⟩ (Nat.le_of_ble_eq_true rfl) rfl ?_
      obtain ⟨hg5, hf⟩ := gdE hf
      refine J_ias (pc' := 108) d_Md_goesOn_107 rfl sh_80 (vinP hg5) ?_
      refine J_aload_n (pc' := 109) d_Md_goesOn_108 rfl 0 rfl ?_
      refine J_getR (pc' := 112) d_Md_goesOn_109 rfl sh_66 fl_Md_49 rfl ?_
      refine J_iload (pc' := 114) d_Md_goesOn_112 rfl 3 rfl ?_
      obtain ⟨hg6, hf⟩ := gdE hf
      refine J_ial (pc' := 115) d_Md_goesOn_114 rfl sh_80 (vinP hg6) ?_
      refine J_iconst (pc' := 116) (v := (-1)) d_Md_goesOn_115 rfl ic_m1 ?_
      refine J_icmp_ne (pc' := 119) (tgt := 121) d_Md_goesOn_116 rfl (by decide) (fun hc7 => ?_) (fun hc7 => ?_)
      · have hf := brF hc7 hf
        refine J_iinc (pc' := 124) (j := 3) (v := 1) (lv' := [(5, .int (v5 + 1)), (0, rf V 66), (2, .int v2), (3, .int v3)]) d_Md_goesOn_121 rfl rfl ic_1 (by decide) rfl ?_
        refine J_goto (tgt := 83) d_Md_goesOn_124 (by decide) ?_
        refine J_pick [1, 2, 3, 0] rfl ?_
        exact ih _ _ _ _ hf
      · have hf := brT hc7 hf
        refine J_iconst (pc' := 120) (v := 0) d_Md_goesOn_119 rfl ic_0 ?_
        obtain ⟨rfl, rfl⟩ := resE hf
        exact J_zret (by decide) d_Md_goesOn_120
def f_Md_goesOn_77 (σ : Sg) (v2 : Int32) (v3 : Int32) (v4 : Int32) : Option (Int32 × Sg) :=
  f_Md_goesOn_83 FU σ v2 v3 (v4 + 1)
set_option maxHeartbeats 4000000 in
theorem j_Md_goesOn_77 {V : Vx} {X : Xx} {r : Int32} {σ' : Sg}  (σ : Sg) (v2 : Int32) (v3 : Int32) (v4 : Int32) (hf : f_Md_goesOn_77 σ v2 v3 v4 = some (r, σ')) : J V X (k2_rm 2 48) c_Md_goesOn R_Md 6 (some .boolean) (Qr V X (some (.int r)) σ') σ 77 [(0, rf V 66), (2, .int v2), (3, .int v3), (4, .int v4)] [] := by
  unfold f_Md_goesOn_77 at hf
  refine J_iload (pc' := 79) d_Md_goesOn_77 rfl 3 rfl ?_
  refine J_iconst (pc' := 80) (v := 1) d_Md_goesOn_79 rfl ic_1 ?_
  refine J_iadd (pc' := 81) d_Md_goesOn_80 rfl ?_
  refine J_istore (pc' := 83) (lv' := [(5, .int (v4 + 1)), (0, rf V 66), (2, .int v2), (3, .int v3), (4, .int v4)]) d_Md_goesOn_81 rfl (by decide) rfl ?_
  refine J_pick [1, 2, 3, 0] rfl ?_
  exact j_Md_goesOn_83 FU _ _ _ _ hf
def f_Md_goesOn_42 (σ : Sg) (v2 : Int32) (v3 : Int32) (v4 : Int32) : Option (Int32 × Sg) :=
  if 0 ≤ v4 then
    gd (vin v4 5) (
      (f_Md_nextRope σ v4 (σ.1 80 v4.toNatClampNeg) v2 v3).bind fun r12 =>
        gd (vin v4 5) (
          f_Md_goesOn_77 (pI σ 80 v4.toNatClampNeg r12) v2 v3 v4))
  else
    some (0, σ)
set_option maxHeartbeats 4000000 in
theorem j_Md_goesOn_42 {V : Vx} {X : Xx} {r : Int32} {σ' : Sg}  (σ : Sg) (v2 : Int32) (v3 : Int32) (v4 : Int32) (hf : f_Md_goesOn_42 σ v2 v3 v4 = some (r, σ')) : J V X (k2_rm 2 48) c_Md_goesOn R_Md 6 (some .boolean) (Qr V X (some (.int r)) σ') σ 42 [(0, rf V 66), (2, .int v2), (3, .int v3), (4, .int v4)] [] := by
  unfold f_Md_goesOn_42 at hf
  refine J_iload (pc' := 44) d_Md_goesOn_42 rfl 3 rfl ?_
  refine J_if_ge (pc' := 47) (tgt := 49) d_Md_goesOn_44 rfl (by decide) (fun hc9 => ?_) (fun hc9 => ?_)
  · have hf := brT hc9 hf
    refine J_aload_n (pc' := 50) d_Md_goesOn_49 rfl 0 rfl ?_
    refine J_getR (pc' := 53) d_Md_goesOn_50 rfl sh_66 fl_Md_49 rfl ?_
    refine J_iload (pc' := 55) d_Md_goesOn_53 rfl 3 rfl ?_
    refine J_aload_n (pc' := 56) d_Md_goesOn_55 rfl 0 rfl ?_
    refine J_iload (pc' := 58) d_Md_goesOn_56 rfl 3 rfl ?_
    refine J_aload_n (pc' := 59) d_Md_goesOn_58 rfl 0 rfl ?_
    refine J_getR (pc' := 62) d_Md_goesOn_59 rfl sh_66 fl_Md_49 rfl ?_
    refine J_iload (pc' := 64) d_Md_goesOn_62 rfl 3 rfl ?_
    obtain ⟨hg10, hf⟩ := gdE hf
    refine J_ial (pc' := 65) d_Md_goesOn_64 rfl sh_80 (vinP hg10) ?_
    refine J_iload_n (pc' := 66) d_Md_goesOn_65 rfl 1 rfl ?_
    refine J_iload_n (pc' := 67) d_Md_goesOn_66 rfl 2 rfl ?_
    obtain ⟨r12, hq11, hf⟩ := bpE hf
    refine J_V (pc' := 70) (as := [.int v4, .int (σ.1 80 v4.toNatClampNeg), .int v2, .int v3]) (rest := [.int v4, rf V 80]) (st' := [.int r12, .int v4, rf V 80]) d_Md_goesOn_67 rfl sh_66 rfl mv_Md_266 (ct_Md_nextRope V _ σ v4 (σ.1 80 v4.toNatClampNeg) v2 v3 hq11) rfl rfl ⟨Nat.le_of_ble_eq_true rfl, Nat.le_of_ble_eq_true rfl⟩ ⟨rfl, rfl⟩ (Nat.le_of_ble_eq_true rfl) rfl ?_
    obtain ⟨hg13, hf⟩ := gdE hf
    refine J_ias (pc' := 71) d_Md_goesOn_70 rfl sh_80 (vinP hg13) ?_
    refine J_goto (tgt := 77) d_Md_goesOn_71 (by decide) ?_
    exact j_Md_goesOn_77 _ _ _ _ hf
  · have hf := brF hc9 hf
    refine J_iconst (pc' := 48) (v := 0) d_Md_goesOn_47 rfl ic_0 ?_
    obtain ⟨rfl, rfl⟩ := resE hf
    exact J_zret (by decide) d_Md_goesOn_48
def f_Md_goesOn_12 : Nat → Sg → Int32 → Int32 → Int32 → Option (Int32 × Sg)
  | 0, _, _, _, _ => none
  | n + 1, σ, v2, v3, v4 =>
    if v4 < 0 then
      f_Md_goesOn_42 σ v2 v3 v4
    else
      gd (vin v4 5) (
        (f_Md_nextRope σ v4 (σ.1 80 v4.toNatClampNeg) v2 v3).bind fun r16 =>
          if r16 = (-1) then f_Md_goesOn_12 n σ v2 v3 (v4 + (-1)) else f_Md_goesOn_42 σ v2 v3 v4)
theorem f_Md_goesOn_12_s (n : Nat) (σ : Sg) (v2 : Int32) (v3 : Int32) (v4 : Int32) : f_Md_goesOn_12 (n + 1) σ v2 v3 v4 =
    if v4 < 0 then
      f_Md_goesOn_42 σ v2 v3 v4
    else
      gd (vin v4 5) (
        (f_Md_nextRope σ v4 (σ.1 80 v4.toNatClampNeg) v2 v3).bind fun r16 =>
          if r16 = (-1) then f_Md_goesOn_12 n σ v2 v3 (v4 + (-1)) else f_Md_goesOn_42 σ v2 v3 v4) := rfl
set_option maxHeartbeats 4000000 in
theorem j_Md_goesOn_12 {V : Vx} {X : Xx} {r : Int32} {σ' : Sg}  : ∀ (n : Nat) (σ : Sg) (v2 : Int32) (v3 : Int32) (v4 : Int32), f_Md_goesOn_12 n σ v2 v3 v4 = some (r, σ') → J V X (k2_rm 2 48) c_Md_goesOn R_Md 6 (some .boolean) (Qr V X (some (.int r)) σ') σ 12 [(0, rf V 66), (2, .int v2), (3, .int v3), (4, .int v4)] [] := by
  intro n
  induction n with
  | zero => intro σ v2 v3 v4 hf; exact nn hf
  | succ n ih =>
    intro σ v2 v3 v4 hf
    rw [f_Md_goesOn_12_s] at hf
    refine J_iload (pc' := 14) d_Md_goesOn_12 rfl 3 rfl ?_
    refine J_if_lt (pc' := 17) (tgt := 42) d_Md_goesOn_14 rfl (by decide) (fun hc8 => ?_) (fun hc8 => ?_)
    · have hf := brT hc8 hf
      exact j_Md_goesOn_42 _ _ _ _ hf
    · have hf := brF hc8 hf
      refine J_aload_n (pc' := 18) d_Md_goesOn_17 rfl 0 rfl ?_
      refine J_iload (pc' := 20) d_Md_goesOn_18 rfl 3 rfl ?_
      refine J_aload_n (pc' := 21) d_Md_goesOn_20 rfl 0 rfl ?_
      refine J_getR (pc' := 24) d_Md_goesOn_21 rfl sh_66 fl_Md_49 rfl ?_
      refine J_iload (pc' := 26) d_Md_goesOn_24 rfl 3 rfl ?_
      obtain ⟨hg14, hf⟩ := gdE hf
      refine J_ial (pc' := 27) d_Md_goesOn_26 rfl sh_80 (vinP hg14) ?_
      refine J_iload_n (pc' := 28) d_Md_goesOn_27 rfl 1 rfl ?_
      refine J_iload_n (pc' := 29) d_Md_goesOn_28 rfl 2 rfl ?_
      obtain ⟨r16, hq15, hf⟩ := bpE hf
      refine J_V (pc' := 32) (as := [.int v4, .int (σ.1 80 v4.toNatClampNeg), .int v2, .int v3]) (rest := []) (st' := [.int r16]) d_Md_goesOn_29 rfl sh_66 rfl mv_Md_266 (ct_Md_nextRope V _ σ v4 (σ.1 80 v4.toNatClampNeg) v2 v3 hq15) rfl rfl ⟨Nat.le_of_ble_eq_true rfl, Nat.le_of_ble_eq_true rfl⟩ ⟨rfl, rfl⟩ (Nat.le_of_ble_eq_true rfl) rfl ?_
      refine J_iconst (pc' := 33) (v := (-1)) d_Md_goesOn_32 rfl ic_m1 ?_
      refine J_icmp_ne (pc' := 36) (tgt := 42) d_Md_goesOn_33 rfl (by decide) (fun hc17 => ?_) (fun hc17 => ?_)
      · have hf := brF hc17 hf
        exact j_Md_goesOn_42 _ _ _ _ hf
      · have hf := brT hc17 hf
        refine J_iinc (pc' := 39) (j := 3) (v := (-1)) (lv' := [(4, .int (v4 + (-1))), (0, rf V 66), (2, .int v2), (3, .int v3)]) d_Md_goesOn_36 rfl rfl ic_m1 (by decide) rfl ?_
        refine J_goto (tgt := 12) d_Md_goesOn_39 (by decide) ?_
        refine J_pick [1, 2, 3, 0] rfl ?_
        exact ih _ _ _ _ hf
def f_Md_goesOn (σ : Sg) (v1 : Int32) (v2 : Int32) (v3 : Int32) : Option (Int32 × Sg) :=
  if v1 = 0 then f_Md_goesOn_12 FU σ v2 v3 ((σ.1 66 18) - 1) else f_Md_goesOn_77 σ v2 v3 (-1)
set_option maxHeartbeats 4000000 in
theorem j_Md_goesOn {V : Vx} {X : Xx} {r : Int32} {σ' : Sg} (σ : Sg) (v1 : Int32) (v2 : Int32) (v3 : Int32) (hf : f_Md_goesOn σ v1 v2 v3 = some (r, σ')) : J V X (k2_rm 2 48) c_Md_goesOn R_Md 6 (some .boolean) (Qr V X (some (.int r)) σ') σ 0 [(0, rf V 66), (1, .int v1), (2, .int v2), (3, .int v3)] [] := by
  unfold f_Md_goesOn at hf
  refine J_aload_n (pc' := 1) d_Md_goesOn_0 rfl 0 rfl ?_
  refine J_getI (pc' := 4) d_Md_goesOn_1 rfl sh_66 fl_Md_259 rfl ?_
  refine J_iconst (pc' := 5) (v := 1) d_Md_goesOn_4 rfl ic_1 ?_
  refine J_isub (pc' := 6) d_Md_goesOn_5 rfl ?_
  refine J_istore (pc' := 8) (lv' := [(4, .int ((σ.1 66 18) - 1)), (0, rf V 66), (1, .int v1), (2, .int v2), (3, .int v3)]) d_Md_goesOn_6 rfl (by decide) rfl ?_
  refine J_iload_n (pc' := 9) d_Md_goesOn_8 rfl 2 rfl ?_
  refine J_if_ne (pc' := 12) (tgt := 74) d_Md_goesOn_9 rfl (by decide) (fun hc1 => ?_) (fun hc1 => ?_)
  · have hf := brF hc1 hf
    refine J_iconst (pc' := 75) (v := (-1)) d_Md_goesOn_74 rfl ic_m1 ?_
    refine J_istore (pc' := 77) (lv' := [(4, .int (-1)), (0, rf V 66), (1, .int v1), (2, .int v2), (3, .int v3)]) d_Md_goesOn_75 rfl (by decide) rfl ?_
    refine J_pick [1, 3, 4, 0] rfl ?_
    exact j_Md_goesOn_77 _ _ _ _ hf
  · have hf := brT hc1 hf
    refine J_pick [1, 3, 4, 0] rfl ?_
    exact j_Md_goesOn_12 FU _ _ _ _ hf
theorem ct_Md_goesOn (V : Vx) (l : Launch) (σ : Sg) (v1 : Int32) (v2 : Int32) (v3 : Int32) {r : Int32} {σ' : Sg} (hf : f_Md_goesOn σ v1 v2 v3 = some (r, σ')) : Ct V l y_Md_goesOn c_Md_goesOn 6 (some .boolean) (k2_rm 2 48) [rf V 66, .int v1, .int v2, .int v3] σ (some (.int r)) σ' := Ct.ofJ (by decide +kernel) (Nat.le_of_ble_eq_true rfl) fun X _ => j_Md_goesOn _ v1 v2 v3 hf
def f_Md_rowCost_4 : Nat → Sg → Int32 → Int32 → Option Int32
  | 0, _, _, _ => none
  | n + 1, σ, v1, v2 =>
    if (σ.1 66 18) ≤ v2 then
      some v1
    else
      gd (vin v2 5) (
        gd (vin v2 5) (
          (f_Md_costs σ (σ.1 80 v2.toNatClampNeg) 0 (σ.1 78 v2.toNatClampNeg)).bind fun r5 =>
            f_Md_rowCost_4 n σ (v1 + r5) (v2 + 1)))
theorem f_Md_rowCost_4_s (n : Nat) (σ : Sg) (v1 : Int32) (v2 : Int32) : f_Md_rowCost_4 (n + 1) σ v1 v2 =
    if (σ.1 66 18) ≤ v2 then
      some v1
    else
      gd (vin v2 5) (
        gd (vin v2 5) (
          (f_Md_costs σ (σ.1 80 v2.toNatClampNeg) 0 (σ.1 78 v2.toNatClampNeg)).bind fun r5 =>
            f_Md_rowCost_4 n σ (v1 + r5) (v2 + 1))) := rfl
set_option maxHeartbeats 4000000 in
theorem j_Md_rowCost_4 {V : Vx} {X : Xx} {σ : Sg} {r : Int32}  : ∀ (n : Nat) (v1 : Int32) (v2 : Int32), f_Md_rowCost_4 n σ v1 v2 = some r → J V X (k2_rm 2 46) c_Md_rowCost R_Md 3 (some .int) (Qr V X (some (.int r)) σ) σ 4 [(0, rf V 66), (1, .int v1), (2, .int v2)] [] := by
  intro n
  induction n with
  | zero => intro v1 v2 hf; exact nn hf
  | succ n ih =>
    intro v1 v2 hf
    rw [f_Md_rowCost_4_s] at hf
    refine J_iload_n (pc' := 5) d_Md_rowCost_4 rfl 2 rfl ?_
    refine J_aload_n (pc' := 6) d_Md_rowCost_5 rfl 0 rfl ?_
    refine J_getI (pc' := 9) d_Md_rowCost_6 rfl sh_66 fl_Md_259 rfl ?_
    refine J_icmp_ge (pc' := 12) (tgt := 38) d_Md_rowCost_9 rfl (by decide) (fun hc1 => ?_) (fun hc1 => ?_)
    · have hf := brT hc1 hf
      refine J_iload_n (pc' := 39) d_Md_rowCost_38 rfl 1 rfl ?_
      obtain rfl := Option.some.inj hf
      exact J_iret d_Md_rowCost_39
    · have hf := brF hc1 hf
      refine J_iload_n (pc' := 13) d_Md_rowCost_12 rfl 1 rfl ?_
      refine J_aload_n (pc' := 14) d_Md_rowCost_13 rfl 0 rfl ?_
      refine J_aload_n (pc' := 15) d_Md_rowCost_14 rfl 0 rfl ?_
      refine J_getR (pc' := 18) d_Md_rowCost_15 rfl sh_66 fl_Md_49 rfl ?_
      refine J_iload_n (pc' := 19) d_Md_rowCost_18 rfl 2 rfl ?_
      obtain ⟨hg2, hf⟩ := gdE hf
      refine J_ial (pc' := 20) d_Md_rowCost_19 rfl sh_80 (vinP hg2) ?_
      refine J_iconst (pc' := 21) (v := 0) d_Md_rowCost_20 rfl ic_0 ?_
      refine J_aload_n (pc' := 22) d_Md_rowCost_21 rfl 0 rfl ?_
      refine J_getR (pc' := 25) d_Md_rowCost_22 rfl sh_66 fl_Md_43 rfl ?_
      refine J_iload_n (pc' := 26) d_Md_rowCost_25 rfl 2 rfl ?_
      obtain ⟨hg3, hf⟩ := gdE hf
      refine J_ial (pc' := 27) d_Md_rowCost_26 rfl sh_78 (vinP hg3) ?_
      obtain ⟨r5, hq4, hf⟩ := bpE hf
      refine J_V (pc' := 30) (as := [.int (σ.1 80 v2.toNatClampNeg), .int 0, .int (σ.1 78 v2.toNatClampNeg)]) (rest := [.int v1]) (st' := [.int r5, .int v1]) d_Md_rowCost_27 rfl sh_66 rfl mv_Md_195 (ct_Md_costs V _ σ (σ.1 80 v2.toNatClampNeg) 0 (σ.1 78 v2.toNatClampNeg) hq4) rfl rfl ⟨Nat.le_of_ble_eq_true rfl, Nat.le_of_ble_eq_true rfl⟩ ⟨rfl, rfl⟩ (Nat.le_of_ble_eq_true rfl) rfl ?_
      refine J_iadd (pc' := 31) d_Md_rowCost_30 rfl ?_
      refine J_istore_n (pc' := 32) (lv' := [(1, .int (v1 + r5)), (0, rf V 66), (2, .int v2)]) d_Md_rowCost_31 rfl rfl (by decide) rfl ?_
      refine J_iinc (pc' := 35) (j := 2) (v := 1) (lv' := [(2, .int (v2 + 1)), (1, .int (v1 + r5)), (0, rf V 66)]) d_Md_rowCost_32 rfl rfl ic_1 (by decide) rfl ?_
      refine J_goto (tgt := 4) d_Md_rowCost_35 (by decide) ?_
      refine J_pick [2, 1, 0] rfl ?_
      exact ih _ _ hf
def f_Md_rowCost (σ : Sg)  : Option Int32 :=
  f_Md_rowCost_4 FU σ 0 0
set_option maxHeartbeats 4000000 in
theorem j_Md_rowCost {V : Vx} {X : Xx} {r : Int32} (σ : Sg) (hf : f_Md_rowCost σ = some r) : J V X (k2_rm 2 46) c_Md_rowCost R_Md 3 (some .int) (Qr V X (some (.int r)) σ) σ 0 [(0, rf V 66)] [] := by
  unfold f_Md_rowCost at hf
  refine J_iconst (pc' := 1) (v := 0) d_Md_rowCost_0 rfl ic_0 ?_
  refine J_istore_n (pc' := 2) (lv' := [(1, .int 0), (0, rf V 66)]) d_Md_rowCost_1 rfl rfl (by decide) rfl ?_
  refine J_iconst (pc' := 3) (v := 0) d_Md_rowCost_2 rfl ic_0 ?_
  refine J_istore_n (pc' := 4) (lv' := [(2, .int 0), (1, .int 0), (0, rf V 66)]) d_Md_rowCost_3 rfl rfl (by decide) rfl ?_
  refine J_pick [2, 1, 0] rfl ?_
  exact j_Md_rowCost_4 FU _ _ hf
theorem ct_Md_rowCost (V : Vx) (l : Launch) (σ : Sg) {r : Int32} (hf : f_Md_rowCost σ = some r) : Ct V l y_Md_rowCost c_Md_rowCost 3 (some .int) (k2_rm 2 46) [rf V 66] σ (some (.int r)) σ := Ct.ofJ (by decide +kernel) (Nat.le_of_ble_eq_true rfl) fun X _ => j_Md_rowCost _  hf
def f_Md_rowTime_93 (k25 : Sg → Int32 → Int32 → Option (Int32 × Sg)) (σ : Sg) (v2 : Int32) (s0 : Int32) : Option (Int32 × Sg) :=
  k25 σ s0 (v2 + 1)
set_option maxHeartbeats 4000000 in
theorem j_Md_rowTime_93 {V : Vx} {X : Xx} {r : Int32} {σ' : Sg} {k25 : Sg → Int32 → Int32 → Option (Int32 × Sg)} (hk25 : ∀ (σ : Sg) (v1 : Int32) (v2 : Int32), k25 σ v1 v2 = some (r, σ') → J V X (k2_rm 2 45) c_Md_rowTime R_Md 5 (some .int) (Qr V X (some (.int r)) σ') σ 25 [(0, rf V 66), (1, .int v1), (2, .int v2)] []) (σ : Sg) (v2 : Int32) (s0 : Int32) (hf : f_Md_rowTime_93 k25 σ v2 s0 = some (r, σ')) : J V X (k2_rm 2 45) c_Md_rowTime R_Md 5 (some .int) (Qr V X (some (.int r)) σ') σ 93 [(0, rf V 66), (2, .int v2)] [.int s0] := by
  unfold f_Md_rowTime_93 at hf
  refine J_istore_n (pc' := 94) (lv' := [(1, .int s0), (0, rf V 66), (2, .int v2)]) d_Md_rowTime_93 rfl rfl (by decide) rfl ?_
  refine J_iinc (pc' := 97) (j := 2) (v := 1) (lv' := [(2, .int (v2 + 1)), (1, .int s0), (0, rf V 66)]) d_Md_rowTime_94 rfl rfl ic_1 (by decide) rfl ?_
  refine J_goto (tgt := 25) d_Md_rowTime_97 (by decide) ?_
  refine J_pick [2, 1, 0] rfl ?_
  exact hk25 _ _ _ hf
def f_Md_rowTime_25 : Nat → Sg → Int32 → Int32 → Option (Int32 × Sg)
  | 0, _, _, _ => none
  | n + 1, σ, v1, v2 =>
    if (σ.1 66 18) ≤ v2 then
      some (v1, σ)
    else
      gd (vin v2 5) (
        gd (vin (σ.1 80 v2.toNatClampNeg) 9) (
          gd (vin (σ.1 80 v2.toNatClampNeg) 9) (
            gd (vin (σ.1 80 v2.toNatClampNeg) 9) (
              (f_Md_minutes (pI σ 82 (σ.1 80 v2.toNatClampNeg).toNatClampNeg ((σ.1 82 (σ.1 80 v2.toNatClampNeg).toNatClampNeg) + 1)) (σ.1 80 v2.toNatClampNeg) 0).bind fun r8 =>
                gd (vin (σ.1 80 v2.toNatClampNeg) 9) (
                  (f_Md_minutes (pI σ 82 (σ.1 80 v2.toNatClampNeg).toNatClampNeg ((σ.1 82 (σ.1 80 v2.toNatClampNeg).toNatClampNeg) + 1)) (σ.1 80 v2.toNatClampNeg) 1).bind fun r11 =>
                    if ((((pI σ 82 (σ.1 80 v2.toNatClampNeg).toNatClampNeg ((σ.1 82 (σ.1 80 v2.toNatClampNeg).toNatClampNeg) + 1)).1 82 (σ.1 80 v2.toNatClampNeg).toNatClampNeg) * r8) + ((((pI σ 82 (σ.1 80 v2.toNatClampNeg).toNatClampNeg ((σ.1 82 (σ.1 80 v2.toNatClampNeg).toNatClampNeg) + 1)).1 82 (σ.1 80 v2.toNatClampNeg).toNatClampNeg) - 1) * r11)) ≤ v1 then
                      f_Md_rowTime_93 (f_Md_rowTime_25 n) (pI σ 82 (σ.1 80 v2.toNatClampNeg).toNatClampNeg ((σ.1 82 (σ.1 80 v2.toNatClampNeg).toNatClampNeg) + 1)) v2 v1
                    else
                      f_Md_rowTime_93 (f_Md_rowTime_25 n) (pI σ 82 (σ.1 80 v2.toNatClampNeg).toNatClampNeg ((σ.1 82 (σ.1 80 v2.toNatClampNeg).toNatClampNeg) + 1)) v2 ((((pI σ 82 (σ.1 80 v2.toNatClampNeg).toNatClampNeg ((σ.1 82 (σ.1 80 v2.toNatClampNeg).toNatClampNeg) + 1)).1 82 (σ.1 80 v2.toNatClampNeg).toNatClampNeg) * r8) + ((((pI σ 82 (σ.1 80 v2.toNatClampNeg).toNatClampNeg ((σ.1 82 (σ.1 80 v2.toNatClampNeg).toNatClampNeg) + 1)).1 82 (σ.1 80 v2.toNatClampNeg).toNatClampNeg) - 1) * r11)))))))
theorem f_Md_rowTime_25_s (n : Nat) (σ : Sg) (v1 : Int32) (v2 : Int32) : f_Md_rowTime_25 (n + 1) σ v1 v2 =
    if (σ.1 66 18) ≤ v2 then
      some (v1, σ)
    else
      gd (vin v2 5) (
        gd (vin (σ.1 80 v2.toNatClampNeg) 9) (
          gd (vin (σ.1 80 v2.toNatClampNeg) 9) (
            gd (vin (σ.1 80 v2.toNatClampNeg) 9) (
              (f_Md_minutes (pI σ 82 (σ.1 80 v2.toNatClampNeg).toNatClampNeg ((σ.1 82 (σ.1 80 v2.toNatClampNeg).toNatClampNeg) + 1)) (σ.1 80 v2.toNatClampNeg) 0).bind fun r8 =>
                gd (vin (σ.1 80 v2.toNatClampNeg) 9) (
                  (f_Md_minutes (pI σ 82 (σ.1 80 v2.toNatClampNeg).toNatClampNeg ((σ.1 82 (σ.1 80 v2.toNatClampNeg).toNatClampNeg) + 1)) (σ.1 80 v2.toNatClampNeg) 1).bind fun r11 =>
                    if ((((pI σ 82 (σ.1 80 v2.toNatClampNeg).toNatClampNeg ((σ.1 82 (σ.1 80 v2.toNatClampNeg).toNatClampNeg) + 1)).1 82 (σ.1 80 v2.toNatClampNeg).toNatClampNeg) * r8) + ((((pI σ 82 (σ.1 80 v2.toNatClampNeg).toNatClampNeg ((σ.1 82 (σ.1 80 v2.toNatClampNeg).toNatClampNeg) + 1)).1 82 (σ.1 80 v2.toNatClampNeg).toNatClampNeg) - 1) * r11)) ≤ v1 then
                      f_Md_rowTime_93 (f_Md_rowTime_25 n) (pI σ 82 (σ.1 80 v2.toNatClampNeg).toNatClampNeg ((σ.1 82 (σ.1 80 v2.toNatClampNeg).toNatClampNeg) + 1)) v2 v1
                    else
                      f_Md_rowTime_93 (f_Md_rowTime_25 n) (pI σ 82 (σ.1 80 v2.toNatClampNeg).toNatClampNeg ((σ.1 82 (σ.1 80 v2.toNatClampNeg).toNatClampNeg) + 1)) v2 ((((pI σ 82 (σ.1 80 v2.toNatClampNeg).toNatClampNeg ((σ.1 82 (σ.1 80 v2.toNatClampNeg).toNatClampNeg) + 1)).1 82 (σ.1 80 v2.toNatClampNeg).toNatClampNeg) * r8) + ((((pI σ 82 (σ.1 80 v2.toNatClampNeg).toNatClampNeg ((σ.1 82 (σ.1 80 v2.toNatClampNeg).toNatClampNeg) + 1)).1 82 (σ.1 80 v2.toNatClampNeg).toNatClampNeg) - 1) * r11))))))) := rfl
set_option maxHeartbeats 4000000 in
theorem j_Md_rowTime_25 {V : Vx} {X : Xx} {r : Int32} {σ' : Sg}  : ∀ (n : Nat) (σ : Sg) (v1 : Int32) (v2 : Int32), f_Md_rowTime_25 n σ v1 v2 = some (r, σ') → J V X (k2_rm 2 45) c_Md_rowTime R_Md 5 (some .int) (Qr V X (some (.int r)) σ') σ 25 [(0, rf V 66), (1, .int v1), (2, .int v2)] [] := by
  intro n
  induction n with
  | zero => intro σ v1 v2 hf; exact nn hf
  | succ n ih =>
    intro σ v1 v2 hf
    rw [f_Md_rowTime_25_s] at hf
    refine J_iload_n (pc' := 26) d_Md_rowTime_25 rfl 2 rfl ?_
    refine J_aload_n (pc' := 27) d_Md_rowTime_26 rfl 0 rfl ?_
    refine J_getI (pc' := 30) d_Md_rowTime_27 rfl sh_66 fl_Md_259 rfl ?_
    refine J_icmp_ge (pc' := 33) (tgt := 100) d_Md_rowTime_30 rfl (by decide) (fun hc2 => ?_) (fun hc2 => ?_)
    · have hf := brT hc2 hf
      refine J_iload_n (pc' := 101) d_Md_rowTime_100 rfl 1 rfl ?_
      obtain ⟨rfl, rfl⟩ := resE hf
      exact J_iret d_Md_rowTime_101
    · have hf := brF hc2 hf
      refine J_aload_n (pc' := 34) d_Md_rowTime_33 rfl 0 rfl ?_
      refine J_getR (pc' := 37) d_Md_rowTime_34 rfl sh_66 fl_Md_49 rfl ?_
      refine J_iload_n (pc' := 38) d_Md_rowTime_37 rfl 2 rfl ?_
      obtain ⟨hg3, hf⟩ := gdE hf
      refine J_ial (pc' := 39) d_Md_rowTime_38 rfl sh_80 (vinP hg3) ?_
      refine J_istore_n (pc' := 40) (lv' := [(3, .int (σ.1 80 v2.toNatClampNeg)), (0, rf V 66), (1, .int v1), (2, .int v2)]) d_Md_rowTime_39 rfl rfl (by decide) rfl ?_
      refine J_aload_n (pc' := 41) d_Md_rowTime_40 rfl 1 rfl ?_
      refine J_getR (pc' := 44) d_Md_rowTime_41 rfl sh_66 fl_Md_55 rfl ?_
      refine J_iload_n (pc' := 45) d_Md_rowTime_44 rfl 0 rfl ?_
      refine J_dup2 (pc' := 46) d_Md_rowTime_45 rfl rfl rfl ?_
      obtain ⟨hg4, hf⟩ := gdE hf
      refine J_ial (pc' := 47) d_Md_rowTime_46 rfl sh_82 (vinP hg4) ?_
      refine J_iconst (pc' := 48) (v := 1) d_Md_rowTime_47 rfl ic_1 ?_
      refine J_iadd (pc' := 49) d_Md_rowTime_48 rfl ?_
      obtain ⟨hg5, hf⟩ := gdE hf
      refine J_ias (pc' := 50) d_Md_rowTime_49 rfl sh_82 (vinP hg5) ?_
      refine J_aload_n (pc' := 51) d_Md_rowTime_50 rfl 1 rfl ?_
      refine J_getR (pc' := 54) d_Md_rowTime_51 rfl sh_66 fl_Md_55 rfl ?_
      refine J_iload_n (pc' := 55) d_Md_rowTime_54 rfl 0 rfl ?_
      obtain ⟨hg6, hf⟩ := gdE hf
      refine J_ial (pc' := 56) d_Md_rowTime_55 rfl sh_82 (vinP hg6) ?_
      refine J_aload_n (pc' := 57) d_Md_rowTime_56 rfl 1 rfl ?_
      refine J_iload_n (pc' := 58) d_Md_rowTime_57 rfl 0 rfl ?_
      refine J_iconst (pc' := 59) (v := 0) d_Md_rowTime_58 rfl ic_0 ?_
      obtain ⟨r8, hq7, hf⟩ := bpE hf
      refine J_V (pc' := 62) (as := [.int (σ.1 80 v2.toNatClampNeg), .int 0]) (rest := [.int ((pI σ 82 (σ.1 80 v2.toNatClampNeg).toNatClampNeg ((σ.1 82 (σ.1 80 v2.toNatClampNeg).toNatClampNeg) + 1)).1 82 (σ.1 80 v2.toNatClampNeg).toNatClampNeg)]) (st' := [.int r8, .int ((pI σ 82 (σ.1 80 v2.toNatClampNeg).toNatClampNeg ((σ.1 82 (σ.1 80 v2.toNatClampNeg).toNatClampNeg) + 1)).1 82 (σ.1 80 v2.toNatClampNeg).toNatClampNeg)]) d_Md_rowTime_59 rfl sh_66 rfl mv_Md_192 (ct_Md_minutes V _ (pI σ 82 (σ.1 80 v2.toNatClampNeg).toNatClampNeg ((σ.1 82 (σ.1 80 v2.toNatClampNeg).toNatClampNeg) + 1)) (σ.1 80 v2.toNatClampNeg) 0 hq7) rfl rfl ⟨Nat.le_of_ble_eq_true rfl, Nat.le_of_ble_eq_true rfl⟩ ⟨rfl, rfl⟩ (Nat.le_of_ble_eq_true rfl) rfl ?_
      refine J_imul (pc' := 63) d_Md_rowTime_62 rfl ?_
      refine J_aload_n (pc' := 64) d_Md_rowTime_63 rfl 1 rfl ?_
      refine J_getR (pc' := 67) d_Md_rowTime_64 rfl sh_66 fl_Md_55 rfl ?_
      refine J_iload_n (pc' := 68) d_Md_rowTime_67 rfl 0 rfl ?_
      obtain ⟨hg9, hf⟩ := gdE hf
      refine J_ial (pc' := 69) d_Md_rowTime_68 rfl sh_82 (vinP hg9) ?_
      refine J_iconst (pc' := 70) (v := 1) d_Md_rowTime_69 rfl ic_1 ?_
      refine J_isub (pc' := 71) d_Md_rowTime_70 rfl ?_
      refine J_aload_n (pc' := 72) d_Md_rowTime_71 rfl 1 rfl ?_
      refine J_iload_n (pc' := 73) d_Md_rowTime_72 rfl 0 rfl ?_
      refine J_iconst (pc' := 74) (v := 1) d_Md_rowTime_73 rfl ic_1 ?_
      obtain ⟨r11, hq10, hf⟩ := bpE hf
      refine J_V (pc' := 77) (as := [.int (σ.1 80 v2.toNatClampNeg), .int 1]) (rest := [.int (((pI σ 82 (σ.1 80 v2.toNatClampNeg).toNatClampNeg ((σ.1 82 (σ.1 80 v2.toNatClampNeg).toNatClampNeg) + 1)).1 82 (σ.1 80 v2.toNatClampNeg).toNatClampNeg) - 1), .int (((pI σ 82 (σ.1 80 v2.toNatClampNeg).toNatClampNeg ((σ.1 82 (σ.1 80 v2.toNatClampNeg).toNatClampNeg) + 1)).1 82 (σ.1 80 v2.toNatClampNeg).toNatClampNeg) * r8)]) (st' := [.int r11, .int (((pI σ 82 (σ.1 80 v2.toNatClampNeg).toNatClampNeg ((σ.1 82 (σ.1 80 v2.toNatClampNeg).toNatClampNeg) + 1)).1 82 (σ.1 80 v2.toNatClampNeg).toNatClampNeg) - 1), .int (((pI σ 82 (σ.1 80 v2.toNatClampNeg).toNatClampNeg ((σ.1 82 (σ.1 80 v2.toNatClampNeg).toNatClampNeg) + 1)).1 82 (σ.1 80 v2.toNatClampNeg).toNatClampNeg) * r8)]) d_Md_rowTime_74 rfl sh_66 rfl mv_Md_192 (ct_Md_minutes V _ (pI σ 82 (σ.1 80 v2.toNatClampNeg).toNatClampNeg ((σ.1 82 (σ.1 80 v2.toNatClampNeg).toNatClampNeg) + 1)) (σ.1 80 v2.toNatClampNeg) 1 hq10) rfl rfl ⟨Nat.le_of_ble_eq_true rfl, Nat.le_of_ble_eq_true rfl⟩ ⟨rfl, rfl⟩ (Nat.le_of_ble_eq_true rfl) rfl ?_
      refine J_imul (pc' := 78) d_Md_rowTime_77 rfl ?_
      refine J_iadd (pc' := 79) d_Md_rowTime_78 rfl ?_
      refine J_istore (pc' := 81) (lv' := [(4, .int ((((pI σ 82 (σ.1 80 v2.toNatClampNeg).toNatClampNeg ((σ.1 82 (σ.1 80 v2.toNatClampNeg).toNatClampNeg) + 1)).1 82 (σ.1 80 v2.toNatClampNeg).toNatClampNeg) * r8) + ((((pI σ 82 (σ.1 80 v2.toNatClampNeg).toNatClampNeg ((σ.1 82 (σ.1 80 v2.toNatClampNeg).toNatClampNeg) + 1)).1 82 (σ.1 80 v2.toNatClampNeg).toNatClampNeg) - 1) * r11))), (3, .int (σ.1 80 v2.toNatClampNeg)), (0, rf V 66), (1, .int v1), (2, .int v2)]) d_Md_rowTime_79 rfl (by decide) rfl ?_
      refine J_iload (pc' := 83) d_Md_rowTime_81 rfl 0 rfl ?_
      refine J_iload_n (pc' := 84) d_Md_rowTime_83 rfl 3 rfl ?_
      refine J_icmp_le (pc' := 87) (tgt := 92) d_Md_rowTime_84 rfl (by decide) (fun hc12 => ?_) (fun hc12 => ?_)
      · have hf := brT hc12 hf
        refine J_iload_n (pc' := 93) d_Md_rowTime_92 rfl 3 rfl ?_
        refine J_pick [2, 4] rfl ?_
        exact j_Md_rowTime_93 ih _ _ _ hf
      · have hf := brF hc12 hf
        refine J_iload (pc' := 89) d_Md_rowTime_87 rfl 0 rfl ?_
        refine J_goto (tgt := 93) d_Md_rowTime_89 (by decide) ?_
        refine J_pick [2, 4] rfl ?_
        exact j_Md_rowTime_93 ih _ _ _ hf
def f_Md_rowTime_2 : Nat → Sg → Int32 → Option (Int32 × Sg)
  | 0, _, _ => none
  | n + 1, σ, v1 =>
    if 9 ≤ v1 then
      f_Md_rowTime_25 FU σ 0 0
    else
      gd (vin v1 9) (
        f_Md_rowTime_2 n (pI σ 82 v1.toNatClampNeg 0) (v1 + 1))
theorem f_Md_rowTime_2_s (n : Nat) (σ : Sg) (v1 : Int32) : f_Md_rowTime_2 (n + 1) σ v1 =
    if 9 ≤ v1 then
      f_Md_rowTime_25 FU σ 0 0
    else
      gd (vin v1 9) (
        f_Md_rowTime_2 n (pI σ 82 v1.toNatClampNeg 0) (v1 + 1)) := rfl
set_option maxHeartbeats 4000000 in
theorem j_Md_rowTime_2 {V : Vx} {X : Xx} {r : Int32} {σ' : Sg}  : ∀ (n : Nat) (σ : Sg) (v1 : Int32), f_Md_rowTime_2 n σ v1 = some (r, σ') → J V X (k2_rm 2 45) c_Md_rowTime R_Md 5 (some .int) (Qr V X (some (.int r)) σ') σ 2 [(0, rf V 66), (1, .int v1)] [] := by
  intro n
  induction n with
  | zero => intro σ v1 hf; exact nn hf
  | succ n ih =>
    intro σ v1 hf
    rw [f_Md_rowTime_2_s] at hf
    refine J_iload_n (pc' := 3) d_Md_rowTime_2 rfl 1 rfl ?_
    refine J_bipush (pc' := 5) (v := 9) d_Md_rowTime_3 rfl bc_9 ?_
    refine J_icmp_ge (pc' := 8) (tgt := 21) d_Md_rowTime_5 rfl (by decide) (fun hc1 => ?_) (fun hc1 => ?_)
    · have hf := brT hc1 hf
      refine J_iconst (pc' := 22) (v := 0) d_Md_rowTime_21 rfl ic_0 ?_
      refine J_istore_n (pc' := 23) (lv' := [(1, .int 0), (0, rf V 66)]) d_Md_rowTime_22 rfl rfl (by decide) rfl ?_
      refine J_iconst (pc' := 24) (v := 0) d_Md_rowTime_23 rfl ic_0 ?_
      refine J_istore_n (pc' := 25) (lv' := [(2, .int 0), (1, .int 0), (0, rf V 66)]) d_Md_rowTime_24 rfl rfl (by decide) rfl ?_
      refine J_pick [2, 1, 0] rfl ?_
      exact j_Md_rowTime_25 FU _ _ _ hf
    · have hf := brF hc1 hf
      refine J_aload_n (pc' := 9) d_Md_rowTime_8 rfl 0 rfl ?_
      refine J_getR (pc' := 12) d_Md_rowTime_9 rfl sh_66 fl_Md_55 rfl ?_
      refine J_iload_n (pc' := 13) d_Md_rowTime_12 rfl 1 rfl ?_
      refine J_iconst (pc' := 14) (v := 0) d_Md_rowTime_13 rfl ic_0 ?_
      obtain ⟨hg13, hf⟩ := gdE hf
      refine J_ias (pc' := 15) d_Md_rowTime_14 rfl sh_82 (vinP hg13) ?_
      refine J_iinc (pc' := 18) (j := 1) (v := 1) (lv' := [(1, .int (v1 + 1)), (0, rf V 66)]) d_Md_rowTime_15 rfl rfl ic_1 (by decide) rfl ?_
      refine J_goto (tgt := 2) d_Md_rowTime_18 (by decide) ?_
      refine J_pick [1, 0] rfl ?_
      exact ih _ _ hf
def f_Md_rowTime (σ : Sg)  : Option (Int32 × Sg) :=
  f_Md_rowTime_2 FU σ 0
set_option maxHeartbeats 4000000 in
theorem j_Md_rowTime {V : Vx} {X : Xx} {r : Int32} {σ' : Sg} (σ : Sg) (hf : f_Md_rowTime σ = some (r, σ')) : J V X (k2_rm 2 45) c_Md_rowTime R_Md 5 (some .int) (Qr V X (some (.int r)) σ') σ 0 [(0, rf V 66)] [] := by
  unfold f_Md_rowTime at hf
  refine J_iconst (pc' := 1) (v := 0) d_Md_rowTime_0 rfl ic_0 ?_
  refine J_istore_n (pc' := 2) (lv' := [(1, .int 0), (0, rf V 66)]) d_Md_rowTime_1 rfl rfl (by decide) rfl ?_
  refine J_pick [1, 0] rfl ?_
  exact j_Md_rowTime_2 FU _ _ hf
theorem ct_Md_rowTime (V : Vx) (l : Launch) (σ : Sg) {r : Int32} {σ' : Sg} (hf : f_Md_rowTime σ = some (r, σ')) : Ct V l y_Md_rowTime c_Md_rowTime 5 (some .int) (k2_rm 2 45) [rf V 66] σ (some (.int r)) σ' := Ct.ofJ (by decide +kernel) (Nat.le_of_ble_eq_true rfl) fun X _ => j_Md_rowTime _  hf
def f_Md_findSent_104 (k18 : Sg → Int32 → Int32 → Int32 → Option Sg) (σ : Sg) (v1 : Int32) (v2 : Int32) : Option Sg :=
  bd (f_Md_goesOn σ 0 v1 v2) fun r14 σ13 =>
    k18 σ13 v1 v2 r14
set_option maxHeartbeats 4000000 in
theorem j_Md_findSent_104 {V : Vx} {X : Xx} {σ' : Sg} {k18 : Sg → Int32 → Int32 → Int32 → Option Sg} (hk18 : ∀ (σ : Sg) (v1 : Int32) (v2 : Int32) (v3 : Int32), k18 σ v1 v2 v3 = some σ' → J V X (k2_rm 3 73) c_Md_findSent R_Md 6 none (Qr V X none σ') σ 18 [(0, rf V 66), (1, .int v1), (2, .int v2), (3, .int v3)] []) (σ : Sg) (v1 : Int32) (v2 : Int32) (hf : f_Md_findSent_104 k18 σ v1 v2 = some σ') : J V X (k2_rm 3 73) c_Md_findSent R_Md 6 none (Qr V X none σ') σ 104 [(0, rf V 66), (1, .int v1), (2, .int v2)] [] := by
  unfold f_Md_findSent_104 at hf
  refine J_aload_n (pc' := 105) d_Md_findSent_104 rfl 0 rfl ?_
  refine J_iconst (pc' := 106) (v := 0) d_Md_findSent_105 rfl ic_0 ?_
  refine J_iload_n (pc' := 107) d_Md_findSent_106 rfl 1 rfl ?_
  refine J_iload_n (pc' := 108) d_Md_findSent_107 rfl 2 rfl ?_
  obtain ⟨r14, σ13, hq12, hf⟩ := bdE hf
  refine J_V (pc' := 111) (as := [.int 0, .int v1, .int v2]) (rest := []) (st' := [.int r14]) d_Md_findSent_108 rfl sh_66 rfl mv_Md_276 (ct_Md_goesOn V _ σ 0 v1 v2 hq12) rfl rfl ⟨Nat.le_of_ble_eq_true rfl, Nat.le_of_ble_eq_true rfl⟩ ⟨rfl, rfl⟩ (Nat.le_of_ble_eq_true rfl) rfl ?_
  refine J_istore_n (pc' := 112) (lv' := [(3, .int r14), (0, rf V 66), (1, .int v1), (2, .int v2)]) d_Md_findSent_111 rfl rfl (by decide) rfl ?_
  refine J_goto (tgt := 18) d_Md_findSent_112 (by decide) ?_
  refine J_pick [1, 2, 3, 0] rfl ?_
  exact hk18 _ _ _ _ hf
def f_Md_findSent_75 (k18 : Sg → Int32 → Int32 → Int32 → Option Sg) : Nat → Sg → Int32 → Int32 → Int32 → Option Sg
  | 0, _, _, _, _ => none
  | n + 1, σ, v1, v2, v5 =>
    if (σ.1 66 18) ≤ v5 then
      f_Md_findSent_104 k18 σ v1 v2
    else
      gd (vin v5 5) (
        gd (vin v5 5) (
          f_Md_findSent_75 k18 n (pI σ 81 v5.toNatClampNeg (σ.1 80 v5.toNatClampNeg)) v1 v2 (v5 + 1)))
theorem f_Md_findSent_75_s (k18 : Sg → Int32 → Int32 → Int32 → Option Sg) (n : Nat) (σ : Sg) (v1 : Int32) (v2 : Int32) (v5 : Int32) : f_Md_findSent_75 k18 (n + 1) σ v1 v2 v5 =
    if (σ.1 66 18) ≤ v5 then
      f_Md_findSent_104 k18 σ v1 v2
    else
      gd (vin v5 5) (
        gd (vin v5 5) (
          f_Md_findSent_75 k18 n (pI σ 81 v5.toNatClampNeg (σ.1 80 v5.toNatClampNeg)) v1 v2 (v5 + 1))) := rfl
set_option maxHeartbeats 4000000 in
theorem j_Md_findSent_75 {V : Vx} {X : Xx} {σ' : Sg} {k18 : Sg → Int32 → Int32 → Int32 → Option Sg} (hk18 : ∀ (σ : Sg) (v1 : Int32) (v2 : Int32) (v3 : Int32), k18 σ v1 v2 v3 = some σ' → J V X (k2_rm 3 73) c_Md_findSent R_Md 6 none (Qr V X none σ') σ 18 [(0, rf V 66), (1, .int v1), (2, .int v2), (3, .int v3)] []) : ∀ (n : Nat) (σ : Sg) (v1 : Int32) (v2 : Int32) (v5 : Int32), f_Md_findSent_75 k18 n σ v1 v2 v5 = some σ' → J V X (k2_rm 3 73) c_Md_findSent R_Md 6 none (Qr V X none σ') σ 75 [(0, rf V 66), (1, .int v1), (2, .int v2), (5, .int v5)] [] := by
  intro n
  induction n with
  | zero => intro σ v1 v2 v5 hf; exact nn hf
  | succ n ih =>
    intro σ v1 v2 v5 hf
    rw [f_Md_findSent_75_s] at hf
    refine J_iload (pc' := 77) d_Md_findSent_75 rfl 3 rfl ?_
    refine J_aload_n (pc' := 78) d_Md_findSent_77 rfl 0 rfl ?_
    refine J_getI (pc' := 81) d_Md_findSent_78 rfl sh_66 fl_Md_259 rfl ?_
    refine J_icmp_ge (pc' := 84) (tgt := 104) d_Md_findSent_81 rfl (by decide) (fun hc18 => ?_) (fun hc18 => ?_)
    · have hf := brT hc18 hf
      refine J_pick [0, 1, 2] rfl ?_
      exact j_Md_findSent_104 hk18 _ _ _ hf
    · have hf := brF hc18 hf
      refine J_aload_n (pc' := 85) d_Md_findSent_84 rfl 0 rfl ?_
      refine J_getR (pc' := 88) d_Md_findSent_85 rfl sh_66 fl_Md_52 rfl ?_
      refine J_iload (pc' := 90) d_Md_findSent_88 rfl 3 rfl ?_
      refine J_aload_n (pc' := 91) d_Md_findSent_90 rfl 0 rfl ?_
      refine J_getR (pc' := 94) d_Md_findSent_91 rfl sh_66 fl_Md_49 rfl ?_
      refine J_iload (pc' := 96) d_Md_findSent_94 rfl 3 rfl ?_
      obtain ⟨hg19, hf⟩ := gdE hf
      refine J_ial (pc' := 97) d_Md_findSent_96 rfl sh_80 (vinP hg19) ?_
      obtain ⟨hg20, hf⟩ := gdE hf
      refine J_ias (pc' := 98) d_Md_findSent_97 rfl sh_81 (vinP hg20) ?_
      refine J_iinc (pc' := 101) (j := 3) (v := 1) (lv' := [(5, .int (v5 + 1)), (0, rf V 66), (1, .int v1), (2, .int v2)]) d_Md_findSent_98 rfl rfl ic_1 (by decide) rfl ?_
      refine J_goto (tgt := 75) d_Md_findSent_101 (by decide) ?_
      refine J_pick [1, 2, 3, 0] rfl ?_
      exact ih _ _ _ _ hf
def f_Md_findSent_45 (k18 : Sg → Int32 → Int32 → Int32 → Option Sg) (σ : Sg) (v1 : Int32) (v2 : Int32) (v4 : Int32) : Option Sg :=
  bd (f_Md_rowTime σ) fun r10 σ9 =>
    if (σ9.1 75 2) < r10 then
      f_Md_findSent_104 k18 σ9 v1 v2
    else
      bd (f_Md_rowTime (pI σ9 66 24 v4)) fun r17 σ16 =>
        f_Md_findSent_75 k18 FU (pI σ16 66 25 r17) v1 v2 0
set_option maxHeartbeats 4000000 in
theorem j_Md_findSent_45 {V : Vx} {X : Xx} {σ' : Sg} {k18 : Sg → Int32 → Int32 → Int32 → Option Sg} (hk18 : ∀ (σ : Sg) (v1 : Int32) (v2 : Int32) (v3 : Int32), k18 σ v1 v2 v3 = some σ' → J V X (k2_rm 3 73) c_Md_findSent R_Md 6 none (Qr V X none σ') σ 18 [(0, rf V 66), (1, .int v1), (2, .int v2), (3, .int v3)] []) (σ : Sg) (v1 : Int32) (v2 : Int32) (v4 : Int32) (hf : f_Md_findSent_45 k18 σ v1 v2 v4 = some σ') : J V X (k2_rm 3 73) c_Md_findSent R_Md 6 none (Qr V X none σ') σ 45 [(0, rf V 66), (1, .int v1), (2, .int v2), (4, .int v4)] [] := by
  unfold f_Md_findSent_45 at hf
  refine J_aload_n (pc' := 46) d_Md_findSent_45 rfl 0 rfl ?_
  obtain ⟨r10, σ9, hq8, hf⟩ := bdE hf
  refine J_V (pc' := 49) (as := []) (rest := []) (st' := [.int r10]) d_Md_findSent_46 rfl sh_66 rfl mv_Md_283 (ct_Md_rowTime V _ σ hq8) rfl rfl ⟨Nat.le_of_ble_eq_true rfl, Nat.le_of_ble_eq_true rfl⟩ ⟨rfl, rfl⟩ (Nat.le_of_ble_eq_true rfl) rfl ?_
  refine J_aload_n (pc' := 50) d_Md_findSent_49 rfl 0 rfl ?_
  refine J_getR (pc' := 53) d_Md_findSent_50 rfl sh_66 fl_Md_34 rfl ?_
  refine J_iconst (pc' := 54) (v := 2) d_Md_findSent_53 rfl ic_2 ?_
  refine J_ial (pc' := 55) d_Md_findSent_54 rfl sh_75 (vin_c (by decide)) ?_
  refine J_icmp_gt (pc' := 58) (tgt := 104) d_Md_findSent_55 rfl (by decide) (fun hc11 => ?_) (fun hc11 => ?_)
  · have hf := brT hc11 hf
    refine J_pick [0, 1, 2] rfl ?_
    exact j_Md_findSent_104 hk18 _ _ _ hf
  · have hf := brF hc11 hf
    refine J_aload_n (pc' := 59) d_Md_findSent_58 rfl 0 rfl ?_
    refine J_iload (pc' := 61) d_Md_findSent_59 rfl 3 rfl ?_
    refine J_putI (pc' := 64) d_Md_findSent_61 rfl sh_66 fp_Md_270 rfl ?_
    refine J_aload_n (pc' := 65) d_Md_findSent_64 rfl 0 rfl ?_
    refine J_aload_n (pc' := 66) d_Md_findSent_65 rfl 0 rfl ?_
    obtain ⟨r17, σ16, hq15, hf⟩ := bdE hf
    refine J_V (pc' := 69) (as := []) (rest := [rf V 66]) (st' := [.int r17, rf V 66]) d_Md_findSent_66 rfl sh_66 rfl mv_Md_283 (ct_Md_rowTime V _ (pI σ9 66 24 v4) hq15) rfl rfl ⟨Nat.le_of_ble_eq_true rfl, Nat.le_of_ble_eq_true rfl⟩ ⟨rfl, rfl⟩ (Nat.le_of_ble_eq_true rfl) rfl ?_
    refine J_putI (pc' := 72) d_Md_findSent_69 rfl sh_66 fp_Md_273 rfl ?_
    refine J_iconst (pc' := 73) (v := 0) d_Md_findSent_72 rfl ic_0 ?_
    refine J_istore (pc' := 75) (lv' := [(5, .int 0), (0, rf V 66), (1, .int v1), (2, .int v2), (4, .int v4)]) d_Md_findSent_73 rfl (by decide) rfl ?_
    refine J_pick [1, 2, 3, 0] rfl ?_
    exact j_Md_findSent_75 hk18 FU _ _ _ _ hf
def f_Md_findSent_18 : Nat → Sg → Int32 → Int32 → Int32 → Option Sg
  | 0, _, _, _, _ => none
  | n + 1, σ, v1, v2, v3 =>
    if v3 = 0 then
      some σ
    else
      (f_Md_rowCost σ).bind fun r6 =>
        if (σ.1 66 24) = (-1) then
          f_Md_findSent_45 (f_Md_findSent_18 n) σ v1 v2 r6
        else
          if (σ.1 66 24) ≤ r6 then f_Md_findSent_104 (f_Md_findSent_18 n) σ v1 v2 else f_Md_findSent_45 (f_Md_findSent_18 n) σ v1 v2 r6
theorem f_Md_findSent_18_s (n : Nat) (σ : Sg) (v1 : Int32) (v2 : Int32) (v3 : Int32) : f_Md_findSent_18 (n + 1) σ v1 v2 v3 =
    if v3 = 0 then
      some σ
    else
      (f_Md_rowCost σ).bind fun r6 =>
        if (σ.1 66 24) = (-1) then
          f_Md_findSent_45 (f_Md_findSent_18 n) σ v1 v2 r6
        else
          if (σ.1 66 24) ≤ r6 then f_Md_findSent_104 (f_Md_findSent_18 n) σ v1 v2 else f_Md_findSent_45 (f_Md_findSent_18 n) σ v1 v2 r6 := rfl
set_option maxHeartbeats 4000000 in
theorem j_Md_findSent_18 {V : Vx} {X : Xx} {σ' : Sg}  : ∀ (n : Nat) (σ : Sg) (v1 : Int32) (v2 : Int32) (v3 : Int32), f_Md_findSent_18 n σ v1 v2 v3 = some σ' → J V X (k2_rm 3 73) c_Md_findSent R_Md 6 none (Qr V X none σ') σ 18 [(0, rf V 66), (1, .int v1), (2, .int v2), (3, .int v3)] [] := by
  intro n
  induction n with
  | zero => intro σ v1 v2 v3 hf; exact nn hf
  | succ n ih =>
    intro σ v1 v2 v3 hf
    rw [f_Md_findSent_18_s] at hf
    refine J_iload_n (pc' := 19) d_Md_findSent_18 rfl 3 rfl ?_
    refine J_if_eq (pc' := 22) (tgt := 115) d_Md_findSent_19 rfl (by decide) (fun hc4 => ?_) (fun hc4 => ?_)
    · have hf := brT hc4 hf
      obtain rfl := Option.some.inj hf
      exact J_vret d_Md_findSent_115
    · have hf := brF hc4 hf
      refine J_aload_n (pc' := 23) d_Md_findSent_22 rfl 0 rfl ?_
      obtain ⟨r6, hq5, hf⟩ := bpE hf
      refine J_V (pc' := 26) (as := []) (rest := []) (st' := [.int r6]) d_Md_findSent_23 rfl sh_66 rfl mv_Md_280 (ct_Md_rowCost V _ σ hq5) rfl rfl ⟨Nat.le_of_ble_eq_true rfl, Nat.le_of_ble_eq_true rfl⟩ ⟨rfl, rfl⟩ (Nat.le_of_ble_eq_true rfl) rfl ?_
      refine J_istore (pc' := 28) (lv' := [(4, .int r6), (0, rf V 66), (1, .int v1), (2, .int v2), (3, .int v3)]) d_Md_findSent_26 rfl (by decide) rfl ?_
      refine J_aload_n (pc' := 29) d_Md_findSent_28 rfl 1 rfl ?_
      refine J_getI (pc' := 32) d_Md_findSent_29 rfl sh_66 fl_Md_270 rfl ?_
      refine J_iconst (pc' := 33) (v := (-1)) d_Md_findSent_32 rfl ic_m1 ?_
      refine J_icmp_eq (pc' := 36) (tgt := 45) d_Md_findSent_33 rfl (by decide) (fun hc7 => ?_) (fun hc7 => ?_)
      · have hf := brT hc7 hf
        refine J_pick [1, 2, 3, 0] rfl ?_
        exact j_Md_findSent_45 ih _ _ _ _ hf
      · have hf := brF hc7 hf
        refine J_iload (pc' := 38) d_Md_findSent_36 rfl 0 rfl ?_
        refine J_aload_n (pc' := 39) d_Md_findSent_38 rfl 1 rfl ?_
        refine J_getI (pc' := 42) d_Md_findSent_39 rfl sh_66 fl_Md_270 rfl ?_
        refine J_icmp_ge (pc' := 45) (tgt := 104) d_Md_findSent_42 rfl (by decide) (fun hc21 => ?_) (fun hc21 => ?_)
        · have hf := brT hc21 hf
          refine J_pick [1, 2, 3] rfl ?_
          exact j_Md_findSent_104 ih _ _ _ hf
        · have hf := brF hc21 hf
          refine J_pick [1, 2, 3, 0] rfl ?_
          exact j_Md_findSent_45 ih _ _ _ _ hf
def f_Md_findSent (σ : Sg) (v1 : Int32) (v2 : Int32) : Option Sg :=
  bd (f_Md_goesOn (pI (pI σ 66 24 (-1)) 66 25 (-1)) 1 v1 v2) fun r3 σ2 =>
    f_Md_findSent_18 FU σ2 v1 v2 r3
set_option maxHeartbeats 4000000 in
theorem j_Md_findSent {V : Vx} {X : Xx} {σ' : Sg} (σ : Sg) (v1 : Int32) (v2 : Int32) (hf : f_Md_findSent σ v1 v2 = some σ') : J V X (k2_rm 3 73) c_Md_findSent R_Md 6 none (Qr V X none σ') σ 0 [(0, rf V 66), (1, .int v1), (2, .int v2)] [] := by
  unfold f_Md_findSent at hf
  refine J_aload_n (pc' := 1) d_Md_findSent_0 rfl 0 rfl ?_
  refine J_iconst (pc' := 2) (v := (-1)) d_Md_findSent_1 rfl ic_m1 ?_
  refine J_putI (pc' := 5) d_Md_findSent_2 rfl sh_66 fp_Md_270 rfl ?_
  refine J_aload_n (pc' := 6) d_Md_findSent_5 rfl 0 rfl ?_
  refine J_iconst (pc' := 7) (v := (-1)) d_Md_findSent_6 rfl ic_m1 ?_
  refine J_putI (pc' := 10) d_Md_findSent_7 rfl sh_66 fp_Md_273 rfl ?_
  refine J_aload_n (pc' := 11) d_Md_findSent_10 rfl 0 rfl ?_
  refine J_iconst (pc' := 12) (v := 1) d_Md_findSent_11 rfl ic_1 ?_
  refine J_iload_n (pc' := 13) d_Md_findSent_12 rfl 1 rfl ?_
  refine J_iload_n (pc' := 14) d_Md_findSent_13 rfl 2 rfl ?_
  obtain ⟨r3, σ2, hq1, hf⟩ := bdE hf
  refine J_V (pc' := 17) (as := [.int 1, .int v1, .int v2]) (rest := []) (st' := [.int r3]) d_Md_findSent_14 rfl sh_66 rfl mv_Md_276 (ct_Md_goesOn V _ (pI (pI σ 66 24 (-1)) 66 25 (-1)) 1 v1 v2 hq1) rfl rfl ⟨Nat.le_of_ble_eq_true rfl, Nat.le_of_ble_eq_true rfl⟩ ⟨rfl, rfl⟩ (Nat.le_of_ble_eq_true rfl) rfl ?_
  refine J_istore_n (pc' := 18) (lv' := [(3, .int r3), (0, rf V 66), (1, .int v1), (2, .int v2)]) d_Md_findSent_17 rfl rfl (by decide) rfl ?_
  refine J_pick [1, 2, 3, 0] rfl ?_
  exact j_Md_findSent_18 FU _ _ _ _ hf
theorem ct_Md_findSent (V : Vx) (l : Launch) (σ : Sg) (v1 : Int32) (v2 : Int32) {σ' : Sg} (hf : f_Md_findSent σ v1 v2 = some σ') : Ct V l y_Md_findSent c_Md_findSent 6 none (k2_rm 3 73) [rf V 66, .int v1, .int v2] σ none σ' := Ct.ofJ (by decide +kernel) (Nat.le_of_ble_eq_true rfl) fun X _ => j_Md_findSent _ v1 v2 hf
def f_Md_sent (σ : Sg) (v1 : Int32) : Option (Int32 × Sg) :=
  if (f_Md_in v1.toInt64 (-2) (((σ.1 66 18) - 1).toInt64)) = 0 then
    some ((-2), σ)
  else
    bd (f_Md_find σ) fun r4 σ3 =>
      (f_Md_findSent σ3 (σ3.1 66 8) (-1)).bind fun σ6 =>
        if v1 = (-2) then
          some (σ6.1 66 25, σ6)
        else
          if v1 = (-1) then
            some (σ6.1 66 24, σ6)
          else
            if (σ6.1 66 24) = (-1) then
              some (σ6.1 66 24, σ6)
            else
              gd (vin v1 5) (
                some (σ6.1 81 v1.toNatClampNeg, σ6))
set_option maxHeartbeats 4000000 in
theorem j_Md_sent {V : Vx} {X : Xx} {r : Int32} {σ' : Sg} (σ : Sg) (v1 : Int32) (hf : f_Md_sent σ v1 = some (r, σ')) : J V X (k2_rm 4 98) c_Md_sent R_Md 2 (some .int) (Qr V X (some (.int r)) σ') σ 0 [(0, rf V 66), (1, .int v1)] [] := by
  unfold f_Md_sent at hf
  refine J_iload_n (pc' := 1) d_Md_sent_0 rfl 1 rfl ?_
  refine J_i2l (pc' := 2) d_Md_sent_1 rfl ?_
  refine J_ldc2 (pc' := 5) (v := (-2)) d_Md_sent_2 rfl cw_Md_286 ?_
  refine J_aload_n (pc' := 6) d_Md_sent_5 rfl 0 rfl ?_
  refine J_getI (pc' := 9) d_Md_sent_6 rfl sh_66 fl_Md_259 rfl ?_
  refine J_iconst (pc' := 10) (v := 1) d_Md_sent_9 rfl ic_1 ?_
  refine J_isub (pc' := 11) d_Md_sent_10 rfl ?_
  refine J_i2l (pc' := 12) d_Md_sent_11 rfl ?_
  refine J_S (pc' := 15) (as := [.long v1.toInt64, .long (-2), .long (((σ.1 66 18) - 1).toInt64)]) (rest := []) (st' := [.int (f_Md_in v1.toInt64 (-2) (((σ.1 66 18) - 1).toInt64))]) d_Md_sent_12 rfl ms_Md_73 (ct_Md_in V _ σ v1.toInt64 (-2) (((σ.1 66 18) - 1).toInt64)) rfl rfl ⟨Nat.le_of_ble_eq_true rfl, Nat.le_of_ble_eq_true rfl⟩ ⟨rfl, rfl⟩ (Nat.le_of_ble_eq_true rfl) rfl ?_
  refine J_if_ne (pc' := 18) (tgt := 21) d_Md_sent_15 rfl (by decide) (fun hc1 => ?_) (fun hc1 => ?_)
  · have hf := brF hc1 hf
    refine J_aload_n (pc' := 22) d_Md_sent_21 rfl 0 rfl ?_
    obtain ⟨r4, σ3, hq2, hf⟩ := bdE hf
    refine J_V (pc' := 25) (as := []) (rest := []) (st' := [.int r4]) d_Md_sent_22 rfl sh_66 rfl mv_Md_137 (ct_Md_find V _ σ hq2) rfl rfl ⟨Nat.le_of_ble_eq_true rfl, Nat.le_of_ble_eq_true rfl⟩ ⟨rfl, rfl⟩ (Nat.le_of_ble_eq_true rfl) rfl ?_
    refine J_pop (pc' := 26) d_Md_sent_25 rfl rfl ?_
    refine J_aload_n (pc' := 27) d_Md_sent_26 rfl 0 rfl ?_
    refine J_aload_n (pc' := 28) d_Md_sent_27 rfl 0 rfl ?_
    refine J_getI (pc' := 31) d_Md_sent_28 rfl sh_66 fl_Md_114 rfl ?_
    refine J_iconst (pc' := 32) (v := (-1)) d_Md_sent_31 rfl ic_m1 ?_
    obtain ⟨σ6, hq5, hf⟩ := bpE hf
    refine J_V (pc' := 35) (as := [.int (σ3.1 66 8), .int (-1)]) (rest := []) (st' := []) d_Md_sent_32 rfl sh_66 rfl mv_Md_288 (ct_Md_findSent V _ σ3 (σ3.1 66 8) (-1) hq5) rfl rfl ⟨Nat.le_of_ble_eq_true rfl, Nat.le_of_ble_eq_true rfl⟩ ⟨rfl, rfl⟩ (Nat.le_of_ble_eq_true rfl) rfl ?_
    refine J_iload_n (pc' := 36) d_Md_sent_35 rfl 1 rfl ?_
    refine J_bipush (pc' := 38) (v := (-2)) d_Md_sent_36 rfl bc_m2 ?_
    refine J_icmp_ne (pc' := 41) (tgt := 48) d_Md_sent_38 rfl (by decide) (fun hc7 => ?_) (fun hc7 => ?_)
    · have hf := brF hc7 hf
      refine J_iload_n (pc' := 49) d_Md_sent_48 rfl 1 rfl ?_
      refine J_iconst (pc' := 50) (v := (-1)) d_Md_sent_49 rfl ic_m1 ?_
      refine J_icmp_eq (pc' := 53) (tgt := 61) d_Md_sent_50 rfl (by decide) (fun hc8 => ?_) (fun hc8 => ?_)
      · have hf := brT hc8 hf
        refine J_aload_n (pc' := 62) d_Md_sent_61 rfl 0 rfl ?_
        refine J_getI (pc' := 65) d_Md_sent_62 rfl sh_66 fl_Md_270 rfl ?_
        refine J_goto (tgt := 74) d_Md_sent_65 (by decide) ?_
        obtain ⟨rfl, rfl⟩ := resE hf
        exact J_iret d_Md_sent_74
      · have hf := brF hc8 hf
        refine J_aload_n (pc' := 54) d_Md_sent_53 rfl 0 rfl ?_
        refine J_getI (pc' := 57) d_Md_sent_54 rfl sh_66 fl_Md_270 rfl ?_
        refine J_iconst (pc' := 58) (v := (-1)) d_Md_sent_57 rfl ic_m1 ?_
        refine J_icmp_ne (pc' := 61) (tgt := 68) d_Md_sent_58 rfl (by decide) (fun hc9 => ?_) (fun hc9 => ?_)
        · have hf := brF hc9 hf
          refine J_aload_n (pc' := 69) d_Md_sent_68 rfl 0 rfl ?_
          refine J_getR (pc' := 72) d_Md_sent_69 rfl sh_66 fl_Md_52 rfl ?_
          refine J_iload_n (pc' := 73) d_Md_sent_72 rfl 1 rfl ?_
          obtain ⟨hg10, hf⟩ := gdE hf
          refine J_ial (pc' := 74) d_Md_sent_73 rfl sh_81 (vinP hg10) ?_
          obtain ⟨rfl, rfl⟩ := resE hf
          exact J_iret d_Md_sent_74
        · have hf := brT hc9 hf
          refine J_aload_n (pc' := 62) d_Md_sent_61 rfl 0 rfl ?_
          refine J_getI (pc' := 65) d_Md_sent_62 rfl sh_66 fl_Md_270 rfl ?_
          refine J_goto (tgt := 74) d_Md_sent_65 (by decide) ?_
          obtain ⟨rfl, rfl⟩ := resE hf
          exact J_iret d_Md_sent_74
    · have hf := brT hc7 hf
      refine J_aload_n (pc' := 42) d_Md_sent_41 rfl 0 rfl ?_
      refine J_getI (pc' := 45) d_Md_sent_42 rfl sh_66 fl_Md_273 rfl ?_
      refine J_goto (tgt := 74) d_Md_sent_45 (by decide) ?_
      obtain ⟨rfl, rfl⟩ := resE hf
      exact J_iret d_Md_sent_74
  · have hf := brT hc1 hf
    refine J_bipush (pc' := 20) (v := (-2)) d_Md_sent_18 rfl bc_m2 ?_
    obtain ⟨rfl, rfl⟩ := resE hf
    exact J_iret d_Md_sent_20
theorem ct_Md_sent (V : Vx) (l : Launch) (σ : Sg) (v1 : Int32) {r : Int32} {σ' : Sg} (hf : f_Md_sent σ v1 = some (r, σ')) : Ct V l y_Md_sent c_Md_sent 2 (some .int) (k2_rm 4 98) [rf V 66, .int v1] σ (some (.int r)) σ' := Ct.ofJ (by decide +kernel) (Nat.le_of_ble_eq_true rfl) fun X _ => j_Md_sent _ v1 hf
def f_Md_cutOf (σ : Sg) (v1 : Int32) : Option (Int32 × Sg) :=
  (f_Md_findSent σ (σ.1 66 8) (-1)).bind fun σ2 =>
    (f_Md_findSent σ2 (σ2.1 66 8) v1).bind fun σ4 =>
      if (σ2.1 66 24) = (-1) then some ((-3), σ4) else if (σ4.1 66 24) = (-1) then some ((-3), σ4) else some ((σ4.1 66 24) - (σ2.1 66 24), σ4)
set_option maxHeartbeats 4000000 in
theorem j_Md_cutOf {V : Vx} {X : Xx} {r : Int32} {σ' : Sg} (σ : Sg) (v1 : Int32) (hf : f_Md_cutOf σ v1 = some (r, σ')) : J V X (k2_rm 4 98) c_Md_cutOf R_Md 3 (some .int) (Qr V X (some (.int r)) σ') σ 0 [(0, rf V 66), (1, .int v1)] [] := by
  unfold f_Md_cutOf at hf
  refine J_aload_n (pc' := 1) d_Md_cutOf_0 rfl 0 rfl ?_
  refine J_aload_n (pc' := 2) d_Md_cutOf_1 rfl 0 rfl ?_
  refine J_getI (pc' := 5) d_Md_cutOf_2 rfl sh_66 fl_Md_114 rfl ?_
  refine J_iconst (pc' := 6) (v := (-1)) d_Md_cutOf_5 rfl ic_m1 ?_
  obtain ⟨σ2, hq1, hf⟩ := bpE hf
  refine J_V (pc' := 9) (as := [.int (σ.1 66 8), .int (-1)]) (rest := []) (st' := []) d_Md_cutOf_6 rfl sh_66 rfl mv_Md_288 (ct_Md_findSent V _ σ (σ.1 66 8) (-1) hq1) rfl rfl ⟨Nat.le_of_ble_eq_true rfl, Nat.le_of_ble_eq_true rfl⟩ ⟨rfl, rfl⟩ (Nat.le_of_ble_eq_true rfl) rfl ?_
  refine J_aload_n (pc' := 10) d_Md_cutOf_9 rfl 0 rfl ?_
  refine J_getI (pc' := 13) d_Md_cutOf_10 rfl sh_66 fl_Md_270 rfl ?_
  refine J_istore_n (pc' := 14) (lv' := [(2, .int (σ2.1 66 24)), (0, rf V 66), (1, .int v1)]) d_Md_cutOf_13 rfl rfl (by decide) rfl ?_
  refine J_aload_n (pc' := 15) d_Md_cutOf_14 rfl 1 rfl ?_
  refine J_aload_n (pc' := 16) d_Md_cutOf_15 rfl 1 rfl ?_
  refine J_getI (pc' := 19) d_Md_cutOf_16 rfl sh_66 fl_Md_114 rfl ?_
  refine J_iload_n (pc' := 20) d_Md_cutOf_19 rfl 2 rfl ?_
  obtain ⟨σ4, hq3, hf⟩ := bpE hf
  refine J_V (pc' := 23) (as := [.int (σ2.1 66 8), .int v1]) (rest := []) (st' := []) d_Md_cutOf_20 rfl sh_66 rfl mv_Md_288 (ct_Md_findSent V _ σ2 (σ2.1 66 8) v1 hq3) rfl rfl ⟨Nat.le_of_ble_eq_true rfl, Nat.le_of_ble_eq_true rfl⟩ ⟨rfl, rfl⟩ (Nat.le_of_ble_eq_true rfl) rfl ?_
  refine J_iload_n (pc' := 24) d_Md_cutOf_23 rfl 0 rfl ?_
  refine J_iconst (pc' := 25) (v := (-1)) d_Md_cutOf_24 rfl ic_m1 ?_
  refine J_icmp_eq (pc' := 28) (tgt := 36) d_Md_cutOf_25 rfl (by decide) (fun hc5 => ?_) (fun hc5 => ?_)
  · have hf := brT hc5 hf
    refine J_bipush (pc' := 38) (v := (-3)) d_Md_cutOf_36 rfl bc_m3 ?_
    refine J_goto (tgt := 47) d_Md_cutOf_38 (by decide) ?_
    obtain ⟨rfl, rfl⟩ := resE hf
    exact J_iret d_Md_cutOf_47
  · have hf := brF hc5 hf
    refine J_aload_n (pc' := 29) d_Md_cutOf_28 rfl 1 rfl ?_
    refine J_getI (pc' := 32) d_Md_cutOf_29 rfl sh_66 fl_Md_270 rfl ?_
    refine J_iconst (pc' := 33) (v := (-1)) d_Md_cutOf_32 rfl ic_m1 ?_
    refine J_icmp_ne (pc' := 36) (tgt := 41) d_Md_cutOf_33 rfl (by decide) (fun hc6 => ?_) (fun hc6 => ?_)
    · have hf := brF hc6 hf
      refine J_aload_n (pc' := 42) d_Md_cutOf_41 rfl 1 rfl ?_
      refine J_getI (pc' := 45) d_Md_cutOf_42 rfl sh_66 fl_Md_270 rfl ?_
      refine J_iload_n (pc' := 46) d_Md_cutOf_45 rfl 0 rfl ?_
      refine J_isub (pc' := 47) d_Md_cutOf_46 rfl ?_
      obtain ⟨rfl, rfl⟩ := resE hf
      exact J_iret d_Md_cutOf_47
    · have hf := brT hc6 hf
      refine J_bipush (pc' := 38) (v := (-3)) d_Md_cutOf_36 rfl bc_m3 ?_
      refine J_goto (tgt := 47) d_Md_cutOf_38 (by decide) ?_
      obtain ⟨rfl, rfl⟩ := resE hf
      exact J_iret d_Md_cutOf_47
theorem ct_Md_cutOf (V : Vx) (l : Launch) (σ : Sg) (v1 : Int32) {r : Int32} {σ' : Sg} (hf : f_Md_cutOf σ v1 = some (r, σ')) : Ct V l y_Md_cutOf c_Md_cutOf 3 (some .int) (k2_rm 4 98) [rf V 66, .int v1] σ (some (.int r)) σ' := Ct.ofJ (by decide +kernel) (Nat.le_of_ble_eq_true rfl) fun X _ => j_Md_cutOf _ v1 hf
def f_Md_cut (σ : Sg) (v1 : Int32) : Option (Int32 × Sg) :=
  bd (f_Md_hasRope σ v1) fun r3 σ2 =>
    if r3 = 0 then
      some ((-2), σ2)
    else
      bd (f_Md_cutOf σ2 v1) fun r7 σ6 =>
        some (r7, σ6)
set_option maxHeartbeats 4000000 in
theorem j_Md_cut {V : Vx} {X : Xx} {r : Int32} {σ' : Sg} (σ : Sg) (v1 : Int32) (hf : f_Md_cut σ v1 = some (r, σ')) : J V X (k2_rm 5 120) c_Md_cut R_Md 2 (some .int) (Qr V X (some (.int r)) σ') σ 0 [(0, rf V 66), (1, .int v1)] [] := by
  unfold f_Md_cut at hf
  refine J_aload_n (pc' := 1) d_Md_cut_0 rfl 0 rfl ?_
  refine J_iload_n (pc' := 2) d_Md_cut_1 rfl 1 rfl ?_
  obtain ⟨r3, σ2, hq1, hf⟩ := bdE hf
  refine J_V (pc' := 5) (as := [.int v1]) (rest := []) (st' := [.int r3]) d_Md_cut_2 rfl sh_66 rfl mv_Md_143 (ct_Md_hasRope V _ σ v1 hq1) rfl rfl ⟨Nat.le_of_ble_eq_true rfl, Nat.le_of_ble_eq_true rfl⟩ ⟨rfl, rfl⟩ (Nat.le_of_ble_eq_true rfl) rfl ?_
  refine J_if_eq (pc' := 8) (tgt := 16) d_Md_cut_5 rfl (by decide) (fun hc4 => ?_) (fun hc4 => ?_)
  · have hf := brT hc4 hf
    refine J_bipush (pc' := 18) (v := (-2)) d_Md_cut_16 rfl bc_m2 ?_
    obtain ⟨rfl, rfl⟩ := resE hf
    exact J_iret d_Md_cut_18
  · have hf := brF hc4 hf
    refine J_aload_n (pc' := 9) d_Md_cut_8 rfl 0 rfl ?_
    refine J_iload_n (pc' := 10) d_Md_cut_9 rfl 1 rfl ?_
    obtain ⟨r7, σ6, hq5, hf⟩ := bdE hf
    refine J_V (pc' := 13) (as := [.int v1]) (rest := []) (st' := [.int r7]) d_Md_cut_10 rfl sh_66 rfl mv_Md_291 (ct_Md_cutOf V _ σ2 v1 hq5) rfl rfl ⟨Nat.le_of_ble_eq_true rfl, Nat.le_of_ble_eq_true rfl⟩ ⟨rfl, rfl⟩ (Nat.le_of_ble_eq_true rfl) rfl ?_
    refine J_goto (tgt := 18) d_Md_cut_13 (by decide) ?_
    obtain ⟨rfl, rfl⟩ := resE hf
    exact J_iret d_Md_cut_18
theorem ct_Md_cut (V : Vx) (l : Launch) (σ : Sg) (v1 : Int32) {r : Int32} {σ' : Sg} (hf : f_Md_cut σ v1 = some (r, σ')) : Ct V l y_Md_cut c_Md_cut 2 (some .int) (k2_rm 5 120) [rf V 66, .int v1] σ (some (.int r)) σ' := Ct.ofJ (by decide +kernel) (Nat.le_of_ble_eq_true rfl) fun X _ => j_Md_cut _ v1 hf
