theorem d_Md_doClash_0 : decode c_Md_doClash 0 = .ok (.aload_n 0, 1) := by decide +kernel
theorem d_Md_doClash_1 : decode c_Md_doClash 1 = .ok (.iload_n 1, 1) := by decide +kernel
theorem d_Md_doClash_2 : decode c_Md_doClash 2 = .ok (.invokevirtual 219, 3) := by decide +kernel
theorem d_Md_doClash_5 : decode c_Md_doClash 5 = .ok (.ifCond .eq 11, 3) := by decide +kernel
theorem d_Md_doClash_8 : decode c_Md_doClash 8 = .ok (.aload_n 0, 1) := by decide +kernel
theorem d_Md_doClash_9 : decode c_Md_doClash 9 = .ok (.iload_n 2, 1) := by decide +kernel
theorem d_Md_doClash_10 : decode c_Md_doClash 10 = .ok (.invokevirtual 219, 3) := by decide +kernel
theorem d_Md_doClash_13 : decode c_Md_doClash 13 = .ok (.ifCond .ne 5, 3) := by decide +kernel
theorem d_Md_doClash_16 : decode c_Md_doClash 16 = .ok (.iconst 0, 1) := by decide +kernel
theorem d_Md_doClash_17 : decode c_Md_doClash 17 = .ok (.ireturn, 1) := by decide +kernel
theorem d_Md_doClash_18 : decode c_Md_doClash 18 = .ok (.aload_n 0, 1) := by decide +kernel
theorem d_Md_doClash_19 : decode c_Md_doClash 19 = .ok (.getfield 37, 3) := by decide +kernel
theorem d_Md_doClash_22 : decode c_Md_doClash 22 = .ok (.iconst 5, 1) := by decide +kernel
theorem d_Md_doClash_23 : decode c_Md_doClash 23 = .ok (.iload_n 1, 1) := by decide +kernel
theorem d_Md_doClash_24 : decode c_Md_doClash 24 = .ok (.imul, 1) := by decide +kernel
theorem d_Md_doClash_25 : decode c_Md_doClash 25 = .ok (.iaload, 1) := by decide +kernel
theorem d_Md_doClash_26 : decode c_Md_doClash 26 = .ok (.istore_n 3, 1) := by decide +kernel
theorem d_Md_doClash_27 : decode c_Md_doClash 27 = .ok (.aload_n 0, 1) := by decide +kernel
theorem d_Md_doClash_28 : decode c_Md_doClash 28 = .ok (.getfield 37, 3) := by decide +kernel
theorem d_Md_doClash_31 : decode c_Md_doClash 31 = .ok (.iconst 5, 1) := by decide +kernel
theorem d_Md_doClash_32 : decode c_Md_doClash 32 = .ok (.iload_n 2, 1) := by decide +kernel
theorem d_Md_doClash_33 : decode c_Md_doClash 33 = .ok (.imul, 1) := by decide +kernel
theorem d_Md_doClash_34 : decode c_Md_doClash 34 = .ok (.iaload, 1) := by decide +kernel
theorem d_Md_doClash_35 : decode c_Md_doClash 35 = .ok (.istore 4, 2) := by decide +kernel
theorem d_Md_doClash_37 : decode c_Md_doClash 37 = .ok (.iload_n 3, 1) := by decide +kernel
theorem d_Md_doClash_38 : decode c_Md_doClash 38 = .ok (.iload 4, 2) := by decide +kernel
theorem d_Md_doClash_40 : decode c_Md_doClash 40 = .ok (.if_icmp .ne 51, 3) := by decide +kernel
theorem d_Md_doClash_43 : decode c_Md_doClash 43 = .ok (.aload_n 0, 1) := by decide +kernel
theorem d_Md_doClash_44 : decode c_Md_doClash 44 = .ok (.getfield 40, 3) := by decide +kernel
theorem d_Md_doClash_47 : decode c_Md_doClash 47 = .ok (.iload_n 1, 1) := by decide +kernel
theorem d_Md_doClash_48 : decode c_Md_doClash 48 = .ok (.iaload, 1) := by decide +kernel
theorem d_Md_doClash_49 : decode c_Md_doClash 49 = .ok (.aload_n 0, 1) := by decide +kernel
theorem d_Md_doClash_50 : decode c_Md_doClash 50 = .ok (.getfield 40, 3) := by decide +kernel
theorem d_Md_doClash_53 : decode c_Md_doClash 53 = .ok (.iload_n 2, 1) := by decide +kernel
theorem d_Md_doClash_54 : decode c_Md_doClash 54 = .ok (.iaload, 1) := by decide +kernel
theorem d_Md_doClash_55 : decode c_Md_doClash 55 = .ok (.aload_n 0, 1) := by decide +kernel
theorem d_Md_doClash_56 : decode c_Md_doClash 56 = .ok (.iload_n 2, 1) := by decide +kernel
theorem d_Md_doClash_57 : decode c_Md_doClash 57 = .ok (.invokevirtual 216, 3) := by decide +kernel
theorem d_Md_doClash_60 : decode c_Md_doClash 60 = .ok (.iadd, 1) := by decide +kernel
theorem d_Md_doClash_61 : decode c_Md_doClash 61 = .ok (.if_icmp .ge 28, 3) := by decide +kernel
theorem d_Md_doClash_64 : decode c_Md_doClash 64 = .ok (.aload_n 0, 1) := by decide +kernel
theorem d_Md_doClash_65 : decode c_Md_doClash 65 = .ok (.getfield 40, 3) := by decide +kernel
theorem d_Md_doClash_68 : decode c_Md_doClash 68 = .ok (.iload_n 1, 1) := by decide +kernel
theorem d_Md_doClash_69 : decode c_Md_doClash 69 = .ok (.iaload, 1) := by decide +kernel
theorem d_Md_doClash_70 : decode c_Md_doClash 70 = .ok (.aload_n 0, 1) := by decide +kernel
theorem d_Md_doClash_71 : decode c_Md_doClash 71 = .ok (.iload_n 1, 1) := by decide +kernel
theorem d_Md_doClash_72 : decode c_Md_doClash 72 = .ok (.invokevirtual 216, 3) := by decide +kernel
theorem d_Md_doClash_75 : decode c_Md_doClash 75 = .ok (.iadd, 1) := by decide +kernel
theorem d_Md_doClash_76 : decode c_Md_doClash 76 = .ok (.aload_n 0, 1) := by decide +kernel
theorem d_Md_doClash_77 : decode c_Md_doClash 77 = .ok (.getfield 40, 3) := by decide +kernel
theorem d_Md_doClash_80 : decode c_Md_doClash 80 = .ok (.iload_n 2, 1) := by decide +kernel
theorem d_Md_doClash_81 : decode c_Md_doClash 81 = .ok (.iaload, 1) := by decide +kernel
theorem d_Md_doClash_82 : decode c_Md_doClash 82 = .ok (.if_icmp .le 7, 3) := by decide +kernel
theorem d_Md_doClash_85 : decode c_Md_doClash 85 = .ok (.iconst 1, 1) := by decide +kernel
theorem d_Md_doClash_86 : decode c_Md_doClash 86 = .ok (.goto 4, 3) := by decide +kernel
theorem d_Md_doClash_89 : decode c_Md_doClash 89 = .ok (.iconst 0, 1) := by decide +kernel
theorem d_Md_doClash_90 : decode c_Md_doClash 90 = .ok (.ireturn, 1) := by decide +kernel
theorem d_Md_doClash_91 : decode c_Md_doClash 91 = .ok (.aload_n 0, 1) := by decide +kernel
theorem d_Md_doClash_92 : decode c_Md_doClash 92 = .ok (.iload_n 3, 1) := by decide +kernel
theorem d_Md_doClash_93 : decode c_Md_doClash 93 = .ok (.iload 4, 2) := by decide +kernel
theorem d_Md_doClash_95 : decode c_Md_doClash 95 = .ok (.invokevirtual 154, 3) := by decide +kernel
theorem d_Md_doClash_98 : decode c_Md_doClash 98 = .ok (.ifCond .ne 5, 3) := by decide +kernel
theorem d_Md_doClash_101 : decode c_Md_doClash 101 = .ok (.iconst 0, 1) := by decide +kernel
theorem d_Md_doClash_102 : decode c_Md_doClash 102 = .ok (.ireturn, 1) := by decide +kernel
theorem d_Md_doClash_103 : decode c_Md_doClash 103 = .ok (.aload_n 0, 1) := by decide +kernel
theorem d_Md_doClash_104 : decode c_Md_doClash 104 = .ok (.iload_n 3, 1) := by decide +kernel
theorem d_Md_doClash_105 : decode c_Md_doClash 105 = .ok (.iload 4, 2) := by decide +kernel
theorem d_Md_doClash_107 : decode c_Md_doClash 107 = .ok (.invokevirtual 174, 3) := by decide +kernel
theorem d_Md_doClash_110 : decode c_Md_doClash 110 = .ok (.aload_n 0, 1) := by decide +kernel
theorem d_Md_doClash_111 : decode c_Md_doClash 111 = .ok (.iload_n 1, 1) := by decide +kernel
theorem d_Md_doClash_112 : decode c_Md_doClash 112 = .ok (.invokevirtual 222, 3) := by decide +kernel
theorem d_Md_doClash_115 : decode c_Md_doClash 115 = .ok (.aload_n 0, 1) := by decide +kernel
theorem d_Md_doClash_116 : decode c_Md_doClash 116 = .ok (.iload_n 2, 1) := by decide +kernel
theorem d_Md_doClash_117 : decode c_Md_doClash 117 = .ok (.invokevirtual 222, 3) := by decide +kernel
theorem d_Md_doClash_120 : decode c_Md_doClash 120 = .ok (.isub, 1) := by decide +kernel
theorem d_Md_doClash_121 : decode c_Md_doClash 121 = .ok (.istore 5, 2) := by decide +kernel
theorem d_Md_doClash_123 : decode c_Md_doClash 123 = .ok (.aload_n 0, 1) := by decide +kernel
theorem d_Md_doClash_124 : decode c_Md_doClash 124 = .ok (.getfield 34, 3) := by decide +kernel
theorem d_Md_doClash_127 : decode c_Md_doClash 127 = .ok (.iconst 0, 1) := by decide +kernel
theorem d_Md_doClash_128 : decode c_Md_doClash 128 = .ok (.iaload, 1) := by decide +kernel
theorem d_Md_doClash_129 : decode c_Md_doClash 129 = .ok (.aload_n 0, 1) := by decide +kernel
theorem d_Md_doClash_130 : decode c_Md_doClash 130 = .ok (.getfield 167, 3) := by decide +kernel
theorem d_Md_doClash_133 : decode c_Md_doClash 133 = .ok (.imul, 1) := by decide +kernel
theorem d_Md_doClash_134 : decode c_Md_doClash 134 = .ok (.istore 6, 2) := by decide +kernel
theorem d_Md_doClash_136 : decode c_Md_doClash 136 = .ok (.iload 5, 2) := by decide +kernel
theorem d_Md_doClash_138 : decode c_Md_doClash 138 = .ok (.iload 6, 2) := by decide +kernel
theorem d_Md_doClash_140 : decode c_Md_doClash 140 = .ok (.if_icmp .ge 15, 3) := by decide +kernel
theorem d_Md_doClash_143 : decode c_Md_doClash 143 = .ok (.iload 5, 2) := by decide +kernel
theorem d_Md_doClash_145 : decode c_Md_doClash 145 = .ok (.iload 6, 2) := by decide +kernel
theorem d_Md_doClash_147 : decode c_Md_doClash 147 = .ok (.ineg, 1) := by decide +kernel
theorem d_Md_doClash_148 : decode c_Md_doClash 148 = .ok (.if_icmp .le 7, 3) := by decide +kernel
theorem d_Md_doClash_151 : decode c_Md_doClash 151 = .ok (.iconst 1, 1) := by decide +kernel
theorem d_Md_doClash_152 : decode c_Md_doClash 152 = .ok (.goto 4, 3) := by decide +kernel
theorem d_Md_doClash_155 : decode c_Md_doClash 155 = .ok (.iconst 0, 1) := by decide +kernel
theorem d_Md_doClash_156 : decode c_Md_doClash 156 = .ok (.ireturn, 1) := by decide +kernel
theorem d_Md_clash_0 : decode c_Md_clash 0 = .ok (.aload_n 0, 1) := by decide +kernel
theorem d_Md_clash_1 : decode c_Md_clash 1 = .ok (.iload_n 1, 1) := by decide +kernel
theorem d_Md_clash_2 : decode c_Md_clash 2 = .ok (.invokevirtual 225, 3) := by decide +kernel
theorem d_Md_clash_5 : decode c_Md_clash 5 = .ok (.ifCond .eq 23, 3) := by decide +kernel
theorem d_Md_clash_8 : decode c_Md_clash 8 = .ok (.aload_n 0, 1) := by decide +kernel
theorem d_Md_clash_9 : decode c_Md_clash 9 = .ok (.iload_n 2, 1) := by decide +kernel
theorem d_Md_clash_10 : decode c_Md_clash 10 = .ok (.invokevirtual 225, 3) := by decide +kernel
theorem d_Md_clash_13 : decode c_Md_clash 13 = .ok (.ifCond .eq 15, 3) := by decide +kernel
theorem d_Md_clash_16 : decode c_Md_clash 16 = .ok (.iload_n 1, 1) := by decide +kernel
theorem d_Md_clash_17 : decode c_Md_clash 17 = .ok (.iload_n 2, 1) := by decide +kernel
theorem d_Md_clash_18 : decode c_Md_clash 18 = .ok (.if_icmp .eq 10, 3) := by decide +kernel
theorem d_Md_clash_21 : decode c_Md_clash 21 = .ok (.iload_n 3, 1) := by decide +kernel
theorem d_Md_clash_22 : decode c_Md_clash 22 = .ok (.invokestatic 106, 3) := by decide +kernel
theorem d_Md_clash_25 : decode c_Md_clash 25 = .ok (.ifCond .ne 6, 3) := by decide +kernel
theorem d_Md_clash_28 : decode c_Md_clash 28 = .ok (.bipush (-2), 2) := by decide +kernel
theorem d_Md_clash_30 : decode c_Md_clash 30 = .ok (.ireturn, 1) := by decide +kernel
theorem d_Md_clash_31 : decode c_Md_clash 31 = .ok (.aload_n 0, 1) := by decide +kernel
theorem d_Md_clash_32 : decode c_Md_clash 32 = .ok (.invokevirtual 228, 3) := by decide +kernel
theorem d_Md_clash_35 : decode c_Md_clash 35 = .ok (.aload_n 0, 1) := by decide +kernel
theorem d_Md_clash_36 : decode c_Md_clash 36 = .ok (.iload_n 1, 1) := by decide +kernel
theorem d_Md_clash_37 : decode c_Md_clash 37 = .ok (.iload_n 2, 1) := by decide +kernel
theorem d_Md_clash_38 : decode c_Md_clash 38 = .ok (.invokevirtual 231, 3) := by decide +kernel
theorem d_Md_clash_41 : decode c_Md_clash 41 = .ok (.ifCond .ne 13, 3) := by decide +kernel
theorem d_Md_clash_44 : decode c_Md_clash 44 = .ok (.iload_n 3, 1) := by decide +kernel
theorem d_Md_clash_45 : decode c_Md_clash 45 = .ok (.ifCond .ne 7, 3) := by decide +kernel
theorem d_Md_clash_48 : decode c_Md_clash 48 = .ok (.iconst 0, 1) := by decide +kernel
theorem d_Md_clash_49 : decode c_Md_clash 49 = .ok (.goto 4, 3) := by decide +kernel
theorem d_Md_clash_52 : decode c_Md_clash 52 = .ok (.iconst (-1), 1) := by decide +kernel
theorem d_Md_clash_53 : decode c_Md_clash 53 = .ok (.ireturn, 1) := by decide +kernel
theorem d_Md_clash_54 : decode c_Md_clash 54 = .ok (.aload_n 0, 1) := by decide +kernel
theorem d_Md_clash_55 : decode c_Md_clash 55 = .ok (.getfield 31, 3) := by decide +kernel
theorem d_Md_clash_58 : decode c_Md_clash 58 = .ok (.aload_n 0, 1) := by decide +kernel
theorem d_Md_clash_59 : decode c_Md_clash 59 = .ok (.getfield 37, 3) := by decide +kernel
theorem d_Md_clash_62 : decode c_Md_clash 62 = .ok (.iconst 5, 1) := by decide +kernel
theorem d_Md_clash_63 : decode c_Md_clash 63 = .ok (.iload_n 1, 1) := by decide +kernel
theorem d_Md_clash_64 : decode c_Md_clash 64 = .ok (.imul, 1) := by decide +kernel
theorem d_Md_clash_65 : decode c_Md_clash 65 = .ok (.iaload, 1) := by decide +kernel
theorem d_Md_clash_66 : decode c_Md_clash 66 = .ok (.iaload, 1) := by decide +kernel
theorem d_Md_clash_67 : decode c_Md_clash 67 = .ok (.istore 4, 2) := by decide +kernel
theorem d_Md_clash_69 : decode c_Md_clash 69 = .ok (.aload_n 0, 1) := by decide +kernel
theorem d_Md_clash_70 : decode c_Md_clash 70 = .ok (.getfield 31, 3) := by decide +kernel
theorem d_Md_clash_73 : decode c_Md_clash 73 = .ok (.aload_n 0, 1) := by decide +kernel
theorem d_Md_clash_74 : decode c_Md_clash 74 = .ok (.getfield 37, 3) := by decide +kernel
theorem d_Md_clash_77 : decode c_Md_clash 77 = .ok (.iconst 5, 1) := by decide +kernel
theorem d_Md_clash_78 : decode c_Md_clash 78 = .ok (.iload_n 2, 1) := by decide +kernel
theorem d_Md_clash_79 : decode c_Md_clash 79 = .ok (.imul, 1) := by decide +kernel
theorem d_Md_clash_80 : decode c_Md_clash 80 = .ok (.iaload, 1) := by decide +kernel
theorem d_Md_clash_81 : decode c_Md_clash 81 = .ok (.iaload, 1) := by decide +kernel
theorem d_Md_clash_82 : decode c_Md_clash 82 = .ok (.istore 5, 2) := by decide +kernel
theorem d_Md_clash_84 : decode c_Md_clash 84 = .ok (.iload_n 3, 1) := by decide +kernel
theorem d_Md_clash_85 : decode c_Md_clash 85 = .ok (.ifCond .ne 7, 3) := by decide +kernel
theorem d_Md_clash_88 : decode c_Md_clash 88 = .ok (.iconst 1, 1) := by decide +kernel
theorem d_Md_clash_89 : decode c_Md_clash 89 = .ok (.goto 35, 3) := by decide +kernel
theorem d_Md_clash_92 : decode c_Md_clash 92 = .ok (.iload 4, 2) := by decide +kernel
theorem d_Md_clash_94 : decode c_Md_clash 94 = .ok (.iload 5, 2) := by decide +kernel
theorem d_Md_clash_96 : decode c_Md_clash 96 = .ok (.if_icmp .ne 16, 3) := by decide +kernel
theorem d_Md_clash_99 : decode c_Md_clash 99 = .ok (.iload_n 1, 1) := by decide +kernel
theorem d_Md_clash_100 : decode c_Md_clash 100 = .ok (.iload_n 2, 1) := by decide +kernel
theorem d_Md_clash_101 : decode c_Md_clash 101 = .ok (.if_icmp .ge 7, 3) := by decide +kernel
theorem d_Md_clash_104 : decode c_Md_clash 104 = .ok (.iload_n 2, 1) := by decide +kernel
theorem d_Md_clash_105 : decode c_Md_clash 105 = .ok (.goto 19, 3) := by decide +kernel
theorem d_Md_clash_108 : decode c_Md_clash 108 = .ok (.iload_n 1, 1) := by decide +kernel
theorem d_Md_clash_109 : decode c_Md_clash 109 = .ok (.goto 15, 3) := by decide +kernel
theorem d_Md_clash_112 : decode c_Md_clash 112 = .ok (.iload 4, 2) := by decide +kernel
theorem d_Md_clash_114 : decode c_Md_clash 114 = .ok (.iload 5, 2) := by decide +kernel
theorem d_Md_clash_116 : decode c_Md_clash 116 = .ok (.if_icmp .ge 7, 3) := by decide +kernel
theorem d_Md_clash_119 : decode c_Md_clash 119 = .ok (.iload_n 2, 1) := by decide +kernel
theorem d_Md_clash_120 : decode c_Md_clash 120 = .ok (.goto 4, 3) := by decide +kernel
theorem d_Md_clash_123 : decode c_Md_clash 123 = .ok (.iload_n 1, 1) := by decide +kernel
theorem d_Md_clash_124 : decode c_Md_clash 124 = .ok (.ireturn, 1) := by decide +kernel
theorem d_Md_clashesNow_0 : decode c_Md_clashesNow 0 = .ok (.iconst 0, 1) := by decide +kernel
theorem d_Md_clashesNow_1 : decode c_Md_clashesNow 1 = .ok (.istore_n 1, 1) := by decide +kernel
theorem d_Md_clashesNow_2 : decode c_Md_clashesNow 2 = .ok (.iconst 0, 1) := by decide +kernel
theorem d_Md_clashesNow_3 : decode c_Md_clashesNow 3 = .ok (.istore_n 2, 1) := by decide +kernel
theorem d_Md_clashesNow_4 : decode c_Md_clashesNow 4 = .ok (.iload_n 2, 1) := by decide +kernel
theorem d_Md_clashesNow_5 : decode c_Md_clashesNow 5 = .ok (.aload_n 0, 1) := by decide +kernel
theorem d_Md_clashesNow_6 : decode c_Md_clashesNow 6 = .ok (.getfield 209, 3) := by decide +kernel
theorem d_Md_clashesNow_9 : decode c_Md_clashesNow 9 = .ok (.if_icmp .ge 39, 3) := by decide +kernel
theorem d_Md_clashesNow_12 : decode c_Md_clashesNow 12 = .ok (.iconst 0, 1) := by decide +kernel
theorem d_Md_clashesNow_13 : decode c_Md_clashesNow 13 = .ok (.istore_n 3, 1) := by decide +kernel
theorem d_Md_clashesNow_14 : decode c_Md_clashesNow 14 = .ok (.iload_n 3, 1) := by decide +kernel
theorem d_Md_clashesNow_15 : decode c_Md_clashesNow 15 = .ok (.iload_n 2, 1) := by decide +kernel
theorem d_Md_clashesNow_16 : decode c_Md_clashesNow 16 = .ok (.if_icmp .ge 26, 3) := by decide +kernel
theorem d_Md_clashesNow_19 : decode c_Md_clashesNow 19 = .ok (.iload_n 1, 1) := by decide +kernel
theorem d_Md_clashesNow_20 : decode c_Md_clashesNow 20 = .ok (.aload_n 0, 1) := by decide +kernel
theorem d_Md_clashesNow_21 : decode c_Md_clashesNow 21 = .ok (.iload_n 2, 1) := by decide +kernel
theorem d_Md_clashesNow_22 : decode c_Md_clashesNow 22 = .ok (.iload_n 3, 1) := by decide +kernel
theorem d_Md_clashesNow_23 : decode c_Md_clashesNow 23 = .ok (.invokevirtual 231, 3) := by decide +kernel
theorem d_Md_clashesNow_26 : decode c_Md_clashesNow 26 = .ok (.ifCond .eq 7, 3) := by decide +kernel
theorem d_Md_clashesNow_29 : decode c_Md_clashesNow 29 = .ok (.iconst 1, 1) := by decide +kernel
theorem d_Md_clashesNow_30 : decode c_Md_clashesNow 30 = .ok (.goto 4, 3) := by decide +kernel
theorem d_Md_clashesNow_33 : decode c_Md_clashesNow 33 = .ok (.iconst 0, 1) := by decide +kernel
theorem d_Md_clashesNow_34 : decode c_Md_clashesNow 34 = .ok (.iadd, 1) := by decide +kernel
theorem d_Md_clashesNow_35 : decode c_Md_clashesNow 35 = .ok (.istore_n 1, 1) := by decide +kernel
theorem d_Md_clashesNow_36 : decode c_Md_clashesNow 36 = .ok (.iinc 3 1, 3) := by decide +kernel
theorem d_Md_clashesNow_39 : decode c_Md_clashesNow 39 = .ok (.goto (-25), 3) := by decide +kernel
theorem d_Md_clashesNow_42 : decode c_Md_clashesNow 42 = .ok (.iinc 2 1, 3) := by decide +kernel
theorem d_Md_clashesNow_45 : decode c_Md_clashesNow 45 = .ok (.goto (-41), 3) := by decide +kernel
theorem d_Md_clashesNow_48 : decode c_Md_clashesNow 48 = .ok (.iload_n 1, 1) := by decide +kernel
theorem d_Md_clashesNow_49 : decode c_Md_clashesNow 49 = .ok (.ireturn, 1) := by decide +kernel
theorem d_Md_clashes_0 : decode c_Md_clashes 0 = .ok (.aload_n 0, 1) := by decide +kernel
theorem d_Md_clashes_1 : decode c_Md_clashes 1 = .ok (.invokevirtual 228, 3) := by decide +kernel
theorem d_Md_clashes_4 : decode c_Md_clashes 4 = .ok (.aload_n 0, 1) := by decide +kernel
theorem d_Md_clashes_5 : decode c_Md_clashes 5 = .ok (.invokevirtual 234, 3) := by decide +kernel
theorem d_Md_clashes_8 : decode c_Md_clashes 8 = .ok (.ireturn, 1) := by decide +kernel
theorem d_Md_isAhead_0 : decode c_Md_isAhead 0 = .ok (.aload_n 0, 1) := by decide +kernel
theorem d_Md_isAhead_1 : decode c_Md_isAhead 1 = .ok (.getfield 31, 3) := by decide +kernel
theorem d_Md_isAhead_4 : decode c_Md_isAhead 4 = .ok (.aload_n 0, 1) := by decide +kernel
theorem d_Md_isAhead_5 : decode c_Md_isAhead 5 = .ok (.getfield 37, 3) := by decide +kernel
theorem d_Md_isAhead_8 : decode c_Md_isAhead 8 = .ok (.iconst 5, 1) := by decide +kernel
theorem d_Md_isAhead_9 : decode c_Md_isAhead 9 = .ok (.iload_n 1, 1) := by decide +kernel
theorem d_Md_isAhead_10 : decode c_Md_isAhead 10 = .ok (.imul, 1) := by decide +kernel
theorem d_Md_isAhead_11 : decode c_Md_isAhead 11 = .ok (.iaload, 1) := by decide +kernel
theorem d_Md_isAhead_12 : decode c_Md_isAhead 12 = .ok (.iaload, 1) := by decide +kernel
theorem d_Md_isAhead_13 : decode c_Md_isAhead 13 = .ok (.istore_n 3, 1) := by decide +kernel
theorem d_Md_isAhead_14 : decode c_Md_isAhead 14 = .ok (.aload_n 0, 1) := by decide +kernel
theorem d_Md_isAhead_15 : decode c_Md_isAhead 15 = .ok (.getfield 31, 3) := by decide +kernel
theorem d_Md_isAhead_18 : decode c_Md_isAhead 18 = .ok (.aload_n 0, 1) := by decide +kernel
theorem d_Md_isAhead_19 : decode c_Md_isAhead 19 = .ok (.getfield 37, 3) := by decide +kernel
theorem d_Md_isAhead_22 : decode c_Md_isAhead 22 = .ok (.iconst 5, 1) := by decide +kernel
theorem d_Md_isAhead_23 : decode c_Md_isAhead 23 = .ok (.iload_n 2, 1) := by decide +kernel
theorem d_Md_isAhead_24 : decode c_Md_isAhead 24 = .ok (.imul, 1) := by decide +kernel
theorem d_Md_isAhead_25 : decode c_Md_isAhead 25 = .ok (.iaload, 1) := by decide +kernel
theorem d_Md_isAhead_26 : decode c_Md_isAhead 26 = .ok (.iaload, 1) := by decide +kernel
theorem d_Md_isAhead_27 : decode c_Md_isAhead 27 = .ok (.istore 4, 2) := by decide +kernel
theorem d_Md_isAhead_29 : decode c_Md_isAhead 29 = .ok (.iload_n 3, 1) := by decide +kernel
theorem d_Md_isAhead_30 : decode c_Md_isAhead 30 = .ok (.iload 4, 2) := by decide +kernel
theorem d_Md_isAhead_32 : decode c_Md_isAhead 32 = .ok (.if_icmp .lt 14, 3) := by decide +kernel
theorem d_Md_isAhead_35 : decode c_Md_isAhead 35 = .ok (.iload_n 3, 1) := by decide +kernel
theorem d_Md_isAhead_36 : decode c_Md_isAhead 36 = .ok (.iload 4, 2) := by decide +kernel
theorem d_Md_isAhead_38 : decode c_Md_isAhead 38 = .ok (.if_icmp .ne 12, 3) := by decide +kernel
theorem d_Md_isAhead_41 : decode c_Md_isAhead 41 = .ok (.iload_n 1, 1) := by decide +kernel
theorem d_Md_isAhead_42 : decode c_Md_isAhead 42 = .ok (.iload_n 2, 1) := by decide +kernel
theorem d_Md_isAhead_43 : decode c_Md_isAhead 43 = .ok (.if_icmp .ge 7, 3) := by decide +kernel
theorem d_Md_isAhead_46 : decode c_Md_isAhead 46 = .ok (.iconst 1, 1) := by decide +kernel
theorem d_Md_isAhead_47 : decode c_Md_isAhead 47 = .ok (.goto 4, 3) := by decide +kernel
theorem d_Md_isAhead_50 : decode c_Md_isAhead 50 = .ok (.iconst 0, 1) := by decide +kernel
theorem d_Md_isAhead_51 : decode c_Md_isAhead 51 = .ok (.ireturn, 1) := by decide +kernel
theorem d_Md_clashesAhead_0 : decode c_Md_clashesAhead 0 = .ok (.iconst 0, 1) := by decide +kernel
theorem d_Md_clashesAhead_1 : decode c_Md_clashesAhead 1 = .ok (.istore_n 2, 1) := by decide +kernel
theorem d_Md_clashesAhead_2 : decode c_Md_clashesAhead 2 = .ok (.iconst 0, 1) := by decide +kernel
theorem d_Md_clashesAhead_3 : decode c_Md_clashesAhead 3 = .ok (.istore_n 3, 1) := by decide +kernel
theorem d_Md_clashesAhead_4 : decode c_Md_clashesAhead 4 = .ok (.iload_n 3, 1) := by decide +kernel
theorem d_Md_clashesAhead_5 : decode c_Md_clashesAhead 5 = .ok (.aload_n 0, 1) := by decide +kernel
theorem d_Md_clashesAhead_6 : decode c_Md_clashesAhead 6 = .ok (.getfield 209, 3) := by decide +kernel
theorem d_Md_clashesAhead_9 : decode c_Md_clashesAhead 9 = .ok (.if_icmp .ge 50, 3) := by decide +kernel
theorem d_Md_clashesAhead_12 : decode c_Md_clashesAhead 12 = .ok (.iload_n 2, 1) := by decide +kernel
theorem d_Md_clashesAhead_13 : decode c_Md_clashesAhead 13 = .ok (.ifCond .ne 34, 3) := by decide +kernel
theorem d_Md_clashesAhead_16 : decode c_Md_clashesAhead 16 = .ok (.iload_n 3, 1) := by decide +kernel
theorem d_Md_clashesAhead_17 : decode c_Md_clashesAhead 17 = .ok (.iload_n 1, 1) := by decide +kernel
theorem d_Md_clashesAhead_18 : decode c_Md_clashesAhead 18 = .ok (.if_icmp .eq 33, 3) := by decide +kernel
theorem d_Md_clashesAhead_21 : decode c_Md_clashesAhead 21 = .ok (.aload_n 0, 1) := by decide +kernel
theorem d_Md_clashesAhead_22 : decode c_Md_clashesAhead 22 = .ok (.iload_n 3, 1) := by decide +kernel
theorem d_Md_clashesAhead_23 : decode c_Md_clashesAhead 23 = .ok (.invokevirtual 219, 3) := by decide +kernel
theorem d_Md_clashesAhead_26 : decode c_Md_clashesAhead 26 = .ok (.ifCond .eq 25, 3) := by decide +kernel
theorem d_Md_clashesAhead_29 : decode c_Md_clashesAhead 29 = .ok (.aload_n 0, 1) := by decide +kernel
theorem d_Md_clashesAhead_30 : decode c_Md_clashesAhead 30 = .ok (.iload_n 3, 1) := by decide +kernel
theorem d_Md_clashesAhead_31 : decode c_Md_clashesAhead 31 = .ok (.iload_n 1, 1) := by decide +kernel
theorem d_Md_clashesAhead_32 : decode c_Md_clashesAhead 32 = .ok (.invokevirtual 237, 3) := by decide +kernel
theorem d_Md_clashesAhead_35 : decode c_Md_clashesAhead 35 = .ok (.ifCond .eq 16, 3) := by decide +kernel
theorem d_Md_clashesAhead_38 : decode c_Md_clashesAhead 38 = .ok (.aload_n 0, 1) := by decide +kernel
theorem d_Md_clashesAhead_39 : decode c_Md_clashesAhead 39 = .ok (.iload_n 3, 1) := by decide +kernel
theorem d_Md_clashesAhead_40 : decode c_Md_clashesAhead 40 = .ok (.iload_n 1, 1) := by decide +kernel
theorem d_Md_clashesAhead_41 : decode c_Md_clashesAhead 41 = .ok (.invokevirtual 231, 3) := by decide +kernel
theorem d_Md_clashesAhead_44 : decode c_Md_clashesAhead 44 = .ok (.ifCond .eq 7, 3) := by decide +kernel
theorem d_Md_clashesAhead_47 : decode c_Md_clashesAhead 47 = .ok (.iconst 1, 1) := by decide +kernel
theorem d_Md_clashesAhead_48 : decode c_Md_clashesAhead 48 = .ok (.goto 4, 3) := by decide +kernel
theorem d_Md_clashesAhead_51 : decode c_Md_clashesAhead 51 = .ok (.iconst 0, 1) := by decide +kernel
theorem d_Md_clashesAhead_52 : decode c_Md_clashesAhead 52 = .ok (.istore_n 2, 1) := by decide +kernel
theorem d_Md_clashesAhead_53 : decode c_Md_clashesAhead 53 = .ok (.iinc 3 1, 3) := by decide +kernel
theorem d_Md_clashesAhead_56 : decode c_Md_clashesAhead 56 = .ok (.goto (-52), 3) := by decide +kernel
theorem d_Md_clashesAhead_59 : decode c_Md_clashesAhead 59 = .ok (.iload_n 2, 1) := by decide +kernel
theorem d_Md_clashesAhead_60 : decode c_Md_clashesAhead 60 = .ok (.ireturn, 1) := by decide +kernel
theorem d_Md_findPutOff_0 : decode c_Md_findPutOff 0 = .ok (.aload_n 0, 1) := by decide +kernel
theorem d_Md_findPutOff_1 : decode c_Md_findPutOff 1 = .ok (.invokevirtual 228, 3) := by decide +kernel
theorem d_Md_findPutOff_4 : decode c_Md_findPutOff 4 = .ok (.iconst 0, 1) := by decide +kernel
theorem d_Md_findPutOff_5 : decode c_Md_findPutOff 5 = .ok (.istore_n 1, 1) := by decide +kernel
theorem d_Md_findPutOff_6 : decode c_Md_findPutOff 6 = .ok (.iload_n 1, 1) := by decide +kernel
theorem d_Md_findPutOff_7 : decode c_Md_findPutOff 7 = .ok (.aload_n 0, 1) := by decide +kernel
theorem d_Md_findPutOff_8 : decode c_Md_findPutOff 8 = .ok (.getfield 114, 3) := by decide +kernel
theorem d_Md_findPutOff_11 : decode c_Md_findPutOff 11 = .ok (.if_icmp .ge 71, 3) := by decide +kernel
theorem d_Md_findPutOff_14 : decode c_Md_findPutOff 14 = .ok (.iconst 0, 1) := by decide +kernel
theorem d_Md_findPutOff_15 : decode c_Md_findPutOff 15 = .ok (.istore_n 2, 1) := by decide +kernel
theorem d_Md_findPutOff_16 : decode c_Md_findPutOff 16 = .ok (.iload_n 2, 1) := by decide +kernel
theorem d_Md_findPutOff_17 : decode c_Md_findPutOff 17 = .ok (.aload_n 0, 1) := by decide +kernel
theorem d_Md_findPutOff_18 : decode c_Md_findPutOff 18 = .ok (.getfield 209, 3) := by decide +kernel
theorem d_Md_findPutOff_21 : decode c_Md_findPutOff 21 = .ok (.if_icmp .ge 55, 3) := by decide +kernel
theorem d_Md_findPutOff_24 : decode c_Md_findPutOff 24 = .ok (.aload_n 0, 1) := by decide +kernel
theorem d_Md_findPutOff_25 : decode c_Md_findPutOff 25 = .ok (.iload_n 2, 1) := by decide +kernel
theorem d_Md_findPutOff_26 : decode c_Md_findPutOff 26 = .ok (.invokevirtual 219, 3) := by decide +kernel
theorem d_Md_findPutOff_29 : decode c_Md_findPutOff 29 = .ok (.ifCond .eq 41, 3) := by decide +kernel
theorem d_Md_findPutOff_32 : decode c_Md_findPutOff 32 = .ok (.aload_n 0, 1) := by decide +kernel
theorem d_Md_findPutOff_33 : decode c_Md_findPutOff 33 = .ok (.getfield 31, 3) := by decide +kernel
theorem d_Md_findPutOff_36 : decode c_Md_findPutOff 36 = .ok (.aload_n 0, 1) := by decide +kernel
theorem d_Md_findPutOff_37 : decode c_Md_findPutOff 37 = .ok (.getfield 37, 3) := by decide +kernel
theorem d_Md_findPutOff_40 : decode c_Md_findPutOff 40 = .ok (.iconst 5, 1) := by decide +kernel
theorem d_Md_findPutOff_41 : decode c_Md_findPutOff 41 = .ok (.iload_n 2, 1) := by decide +kernel
theorem d_Md_findPutOff_42 : decode c_Md_findPutOff 42 = .ok (.imul, 1) := by decide +kernel
theorem d_Md_findPutOff_43 : decode c_Md_findPutOff 43 = .ok (.iaload, 1) := by decide +kernel
theorem d_Md_findPutOff_44 : decode c_Md_findPutOff 44 = .ok (.iaload, 1) := by decide +kernel
theorem d_Md_findPutOff_45 : decode c_Md_findPutOff 45 = .ok (.iload_n 1, 1) := by decide +kernel
theorem d_Md_findPutOff_46 : decode c_Md_findPutOff 46 = .ok (.if_icmp .ne 24, 3) := by decide +kernel
theorem d_Md_findPutOff_49 : decode c_Md_findPutOff 49 = .ok (.aload_n 0, 1) := by decide +kernel
theorem d_Md_findPutOff_50 : decode c_Md_findPutOff 50 = .ok (.iload_n 2, 1) := by decide +kernel
theorem d_Md_findPutOff_51 : decode c_Md_findPutOff 51 = .ok (.invokevirtual 240, 3) := by decide +kernel
theorem d_Md_findPutOff_54 : decode c_Md_findPutOff 54 = .ok (.ifCond .eq 16, 3) := by decide +kernel
theorem d_Md_findPutOff_57 : decode c_Md_findPutOff 57 = .ok (.aload_n 0, 1) := by decide +kernel
theorem d_Md_findPutOff_58 : decode c_Md_findPutOff 58 = .ok (.getfield 40, 3) := by decide +kernel
theorem d_Md_findPutOff_61 : decode c_Md_findPutOff 61 = .ok (.iload_n 2, 1) := by decide +kernel
theorem d_Md_findPutOff_62 : decode c_Md_findPutOff 62 = .ok (.dup2, 1) := by decide +kernel
theorem d_Md_findPutOff_63 : decode c_Md_findPutOff 63 = .ok (.iaload, 1) := by decide +kernel
theorem d_Md_findPutOff_64 : decode c_Md_findPutOff 64 = .ok (.iconst 1, 1) := by decide +kernel
theorem d_Md_findPutOff_65 : decode c_Md_findPutOff 65 = .ok (.iadd, 1) := by decide +kernel
theorem d_Md_findPutOff_66 : decode c_Md_findPutOff 66 = .ok (.iastore, 1) := by decide +kernel
theorem d_Md_findPutOff_67 : decode c_Md_findPutOff 67 = .ok (.goto (-18), 3) := by decide +kernel
theorem d_Md_findPutOff_70 : decode c_Md_findPutOff 70 = .ok (.iinc 2 1, 3) := by decide +kernel
theorem d_Md_findPutOff_73 : decode c_Md_findPutOff 73 = .ok (.goto (-57), 3) := by decide +kernel
theorem d_Md_findPutOff_76 : decode c_Md_findPutOff 76 = .ok (.iinc 1 1, 3) := by decide +kernel
theorem d_Md_findPutOff_79 : decode c_Md_findPutOff 79 = .ok (.goto (-73), 3) := by decide +kernel
theorem d_Md_findPutOff_82 : decode c_Md_findPutOff 82 = .ok (.return_, 1) := by decide +kernel
def f_Md_doClash (σ : Sg) (v1 : Int32) (v2 : Int32) : Option (Int32 × Sg) :=
  (f_Md_counts σ v1).bind fun r2 =>
    if r2 = 0 then
      some (0, σ)
    else
      (f_Md_counts σ v2).bind fun r5 =>
        if r5 = 0 then
          some (0, σ)
        else
          gd (vin (5 * v1) 100) (
            gd (vin (5 * v2) 100) (
              if (σ.1 76 (5 * v1).toNatClampNeg) = (σ.1 76 (5 * v2).toNatClampNeg) then
                gd (vin v1 20) (
                  gd (vin v2 20) (
                    (f_Md_lasts σ v2).bind fun r24 =>
                      if ((σ.1 77 v2.toNatClampNeg) + r24) ≤ (σ.1 77 v1.toNatClampNeg) then
                        some (0, σ)
                      else
                        gd (vin v1 20) (
                          (f_Md_lasts σ v1).bind fun r28 =>
                            gd (vin v2 20) (
                              if ((σ.1 77 v1.toNatClampNeg) + r28) ≤ (σ.1 77 v2.toNatClampNeg) then some (0, σ) else some (1, σ)))))
              else
                (f_Md_doCross σ (σ.1 76 (5 * v1).toNatClampNeg) (σ.1 76 (5 * v2).toNatClampNeg)).bind fun r11 =>
                  if r11 = 0 then
                    some (0, σ)
                  else
                    (f_Md_findPlace σ (σ.1 76 (5 * v1).toNatClampNeg) (σ.1 76 (5 * v2).toNatClampNeg)).bind fun σ14 =>
                      (f_Md_moment σ14 v1).bind fun r16 =>
                        (f_Md_moment σ14 v2).bind fun r18 =>
                          if ((σ14.1 75 0) * (σ14.1 66 13)) ≤ (r16 - r18) then some (0, σ14) else if (r16 - r18) ≤ (-((σ14.1 75 0) * (σ14.1 66 13))) then some (0, σ14) else some (1, σ14)))
set_option maxHeartbeats 4000000 in
theorem j_Md_doClash {V : Vx} {X : Xx} {r : Int32} {σ' : Sg} (σ : Sg) (v1 : Int32) (v2 : Int32) (hf : f_Md_doClash σ v1 v2 = some (r, σ')) : J V X (k2_rm 4 88) c_Md_doClash R_Md 7 (some .boolean) (Qr V X (some (.int r)) σ') σ 0 [(0, rf V 66), (1, .int v1), (2, .int v2)] [] := by
  unfold f_Md_doClash at hf
  refine J_aload_n (pc' := 1) d_Md_doClash_0 rfl 0 rfl ?_
  refine J_iload_n (pc' := 2) d_Md_doClash_1 rfl 1 rfl ?_
  obtain ⟨r2, hq1, hf⟩ := bpE hf
  refine J_V (pc' := 5) (as := [.int v1]) (rest := []) (st' := [.int r2]) d_Md_doClash_2 rfl sh_66 rfl mv_Md_219 (ct_Md_counts V _ σ v1 hq1) rfl rfl ⟨Nat.le_of_ble_eq_true rfl, Nat.le_of_ble_eq_true rfl⟩ ⟨rfl, rfl⟩ (Nat.le_of_ble_eq_true rfl) rfl ?_
  refine J_if_eq (pc' := 8) (tgt := 16) d_Md_doClash_5 rfl (by decide) (fun hc3 => ?_) (fun hc3 => ?_)
  · have hf := brT hc3 hf
    refine J_iconst (pc' := 17) (v := 0) d_Md_doClash_16 rfl ic_0 ?_
    obtain ⟨rfl, rfl⟩ := resE hf
    exact J_zret (by decide) d_Md_doClash_17
  · have hf := brF hc3 hf
    refine J_aload_n (pc' := 9) d_Md_doClash_8 rfl 0 rfl ?_
    refine J_iload_n (pc' := 10) d_Md_doClash_9 rfl 2 rfl ?_
    obtain ⟨r5, hq4, hf⟩ := bpE hf
    refine J_V (pc' := 13) (as := [.int v2]) (rest := []) (st' := [.int r5]) d_Md_doClash_10 rfl sh_66 rfl mv_Md_219 (ct_Md_counts V _ σ v2 hq4) rfl rfl ⟨Nat.le_of_ble_eq_true rfl, Nat.le_of_ble_eq_true rfl⟩ ⟨rfl, rfl⟩ (Nat.le_of_ble_eq_true rfl) rfl ?_
    refine J_if_ne (pc' := 16) (tgt := 18) d_Md_doClash_13 rfl (by decide) (fun hc6 => ?_) (fun hc6 => ?_)
    · have hf := brF hc6 hf
      refine J_aload_n (pc' := 19) d_Md_doClash_18 rfl 0 rfl ?_
      refine J_getR (pc' := 22) d_Md_doClash_19 rfl sh_66 fl_Md_37 rfl ?_
      refine J_iconst (pc' := 23) (v := 5) d_Md_doClash_22 rfl ic_5 ?_
      refine J_iload_n (pc' := 24) d_Md_doClash_23 rfl 1 rfl ?_
      refine J_imul (pc' := 25) d_Md_doClash_24 rfl ?_
      obtain ⟨hg7, hf⟩ := gdE hf
      refine J_ial (pc' := 26) d_Md_doClash_25 rfl sh_76 (vinP hg7) ?_
      refine J_istore_n (pc' := 27) (lv' := [(3, .int (σ.1 76 (5 * v1).toNatClampNeg)), (0, rf V 66), (1, .int v1), (2, .int v2)]) d_Md_doClash_26 rfl rfl (by decide) rfl ?_
      refine J_aload_n (pc' := 28) d_Md_doClash_27 rfl 1 rfl ?_
      refine J_getR (pc' := 31) d_Md_doClash_28 rfl sh_66 fl_Md_37 rfl ?_
      refine J_iconst (pc' := 32) (v := 5) d_Md_doClash_31 rfl ic_5 ?_
      refine J_iload_n (pc' := 33) d_Md_doClash_32 rfl 3 rfl ?_
      refine J_imul (pc' := 34) d_Md_doClash_33 rfl ?_
      obtain ⟨hg8, hf⟩ := gdE hf
      refine J_ial (pc' := 35) d_Md_doClash_34 rfl sh_76 (vinP hg8) ?_
      refine J_istore (pc' := 37) (lv' := [(4, .int (σ.1 76 (5 * v2).toNatClampNeg)), (3, .int (σ.1 76 (5 * v1).toNatClampNeg)), (0, rf V 66), (1, .int v1), (2, .int v2)]) d_Md_doClash_35 rfl (by decide) rfl ?_
      refine J_iload_n (pc' := 38) d_Md_doClash_37 rfl 1 rfl ?_
      refine J_iload (pc' := 40) d_Md_doClash_38 rfl 0 rfl ?_
      refine J_icmp_ne (pc' := 43) (tgt := 91) d_Md_doClash_40 rfl (by decide) (fun hc9 => ?_) (fun hc9 => ?_)
      · have hf := brF hc9 hf
        refine J_aload_n (pc' := 92) d_Md_doClash_91 rfl 2 rfl ?_
        refine J_iload_n (pc' := 93) d_Md_doClash_92 rfl 1 rfl ?_
        refine J_iload (pc' := 95) d_Md_doClash_93 rfl 0 rfl ?_
        obtain ⟨r11, hq10, hf⟩ := bpE hf
        refine J_V (pc' := 98) (as := [.int (σ.1 76 (5 * v1).toNatClampNeg), .int (σ.1 76 (5 * v2).toNatClampNeg)]) (rest := []) (st' := [.int r11]) d_Md_doClash_95 rfl sh_66 rfl mv_Md_154 (ct_Md_doCross V _ σ (σ.1 76 (5 * v1).toNatClampNeg) (σ.1 76 (5 * v2).toNatClampNeg) hq10) rfl rfl ⟨Nat.le_of_ble_eq_true rfl, Nat.le_of_ble_eq_true rfl⟩ ⟨rfl, rfl⟩ (Nat.le_of_ble_eq_true rfl) rfl ?_
        refine J_if_ne (pc' := 101) (tgt := 103) d_Md_doClash_98 rfl (by decide) (fun hc12 => ?_) (fun hc12 => ?_)
        · have hf := brF hc12 hf
          refine J_aload_n (pc' := 104) d_Md_doClash_103 rfl 2 rfl ?_
          refine J_iload_n (pc' := 105) d_Md_doClash_104 rfl 1 rfl ?_
          refine J_iload (pc' := 107) d_Md_doClash_105 rfl 0 rfl ?_
          obtain ⟨σ14, hq13, hf⟩ := bpE hf
          refine J_V (pc' := 110) (as := [.int (σ.1 76 (5 * v1).toNatClampNeg), .int (σ.1 76 (5 * v2).toNatClampNeg)]) (rest := []) (st' := []) d_Md_doClash_107 rfl sh_66 rfl mv_Md_174 (ct_Md_findPlace V _ σ (σ.1 76 (5 * v1).toNatClampNeg) (σ.1 76 (5 * v2).toNatClampNeg) hq13) rfl rfl ⟨Nat.le_of_ble_eq_true rfl, Nat.le_of_ble_eq_true rfl⟩ ⟨rfl, rfl⟩ (Nat.le_of_ble_eq_true rfl) rfl ?_
          refine J_aload_n (pc' := 111) d_Md_doClash_110 rfl 2 rfl ?_
          refine J_iload_n (pc' := 112) d_Md_doClash_111 rfl 3 rfl ?_
          obtain ⟨r16, hq15, hf⟩ := bpE hf
          refine J_V (pc' := 115) (as := [.int v1]) (rest := []) (st' := [.int r16]) d_Md_doClash_112 rfl sh_66 rfl mv_Md_222 (ct_Md_moment V _ σ14 v1 hq15) rfl rfl ⟨Nat.le_of_ble_eq_true rfl, Nat.le_of_ble_eq_true rfl⟩ ⟨rfl, rfl⟩ (Nat.le_of_ble_eq_true rfl) rfl ?_
          refine J_aload_n (pc' := 116) d_Md_doClash_115 rfl 2 rfl ?_
          refine J_iload_n (pc' := 117) d_Md_doClash_116 rfl 4 rfl ?_
          obtain ⟨r18, hq17, hf⟩ := bpE hf
          refine J_V (pc' := 120) (as := [.int v2]) (rest := [.int r16]) (st' := [.int r18, .int r16]) d_Md_doClash_117 rfl sh_66 rfl mv_Md_222 (ct_Md_moment V _ σ14 v2 hq17) rfl rfl ⟨Nat.le_of_ble_eq_true rfl, Nat.le_of_ble_eq_true rfl⟩ ⟨rfl, rfl⟩ (Nat.le_of_ble_eq_true rfl) rfl ?_
          refine J_isub (pc' := 121) d_Md_doClash_120 rfl ?_
          refine J_istore (pc' := 123) (lv' := [(5, .int (r16 - r18)), (4, .int (σ.1 76 (5 * v2).toNatClampNeg)), (3, .int (σ.1 76 (5 * v1).toNatClampNeg)), (0, rf V 66), (1, .int v1), (2, .int v2)]) d_Md_doClash_121 rfl (by decide) rfl ?_
          refine J_aload_n (pc' := 124) d_Md_doClash_123 rfl 3 rfl ?_
          refine J_getR (pc' := 127) d_Md_doClash_124 rfl sh_66 fl_Md_34 rfl ?_
          refine J_iconst (pc' := 128) (v := 0) d_Md_doClash_127 rfl ic_0 ?_
          refine J_ial (pc' := 129) d_Md_doClash_128 rfl sh_75 (vin_c (by decide)) ?_
          refine J_aload_n (pc' := 130) d_Md_doClash_129 rfl 3 rfl ?_
          refine J_getI (pc' := 133) d_Md_doClash_130 rfl sh_66 fl_Md_167 rfl ?_
          refine J_imul (pc' := 134) d_Md_doClash_133 rfl ?_
          refine J_istore (pc' := 136) (lv' := [(6, .int ((σ14.1 75 0) * (σ14.1 66 13))), (5, .int (r16 - r18)), (4, .int (σ.1 76 (5 * v2).toNatClampNeg)), (3, .int (σ.1 76 (5 * v1).toNatClampNeg)), (0, rf V 66), (1, .int v1), (2, .int v2)]) d_Md_doClash_134 rfl (by decide) rfl ?_
          refine J_iload (pc' := 138) d_Md_doClash_136 rfl 1 rfl ?_
          refine J_iload (pc' := 140) d_Md_doClash_138 rfl 0 rfl ?_
          refine J_icmp_ge (pc' := 143) (tgt := 155) d_Md_doClash_140 rfl (by decide) (fun hc19 => ?_) (fun hc19 => ?_)
          · have hf := brT hc19 hf
            refine J_iconst (pc' := 156) (v := 0) d_Md_doClash_155 rfl ic_0 ?_
            obtain ⟨rfl, rfl⟩ := resE hf
            exact J_zret (by decide) d_Md_doClash_156
          · have hf := brF hc19 hf
            refine J_iload (pc' := 145) d_Md_doClash_143 rfl 1 rfl ?_
            refine J_iload (pc' := 147) d_Md_doClash_145 rfl 0 rfl ?_
            refine J_ineg (pc' := 148) d_Md_doClash_147 rfl ?_
            refine J_icmp_le (pc' := 151) (tgt := 155) d_Md_doClash_148 rfl (by decide) (fun hc20 => ?_) (fun hc20 => ?_)
            · have hf := brT hc20 hf
              refine J_iconst (pc' := 156) (v := 0) d_Md_doClash_155 rfl ic_0 ?_
              obtain ⟨rfl, rfl⟩ := resE hf
              exact J_zret (by decide) d_Md_doClash_156
            · have hf := brF hc20 hf
              refine J_iconst (pc' := 152) (v := 1) d_Md_doClash_151 rfl ic_1 ?_
              refine J_goto (tgt := 156) d_Md_doClash_152 (by decide) ?_
              obtain ⟨rfl, rfl⟩ := resE hf
              exact J_zret (by decide) d_Md_doClash_156
        · have hf := brT hc12 hf
          refine J_iconst (pc' := 102) (v := 0) d_Md_doClash_101 rfl ic_0 ?_
          obtain ⟨rfl, rfl⟩ := resE hf
          exact J_zret (by decide) d_Md_doClash_102
      · have hf := brT hc9 hf
        refine J_aload_n (pc' := 44) d_Md_doClash_43 rfl 2 rfl ?_
        refine J_getR (pc' := 47) d_Md_doClash_44 rfl sh_66 fl_Md_40 rfl ?_
        refine J_iload_n (pc' := 48) d_Md_doClash_47 rfl 3 rfl ?_
        obtain ⟨hg21, hf⟩ := gdE hf
        refine J_ial (pc' := 49) d_Md_doClash_48 rfl sh_77 (vinP hg21) ?_
        refine J_aload_n (pc' := 50) d_Md_doClash_49 rfl 2 rfl ?_
        refine J_getR (pc' := 53) d_Md_doClash_50 rfl sh_66 fl_Md_40 rfl ?_
        refine J_iload_n (pc' := 54) d_Md_doClash_53 rfl 4 rfl ?_
        obtain ⟨hg22, hf⟩ := gdE hf
        refine J_ial (pc' := 55) d_Md_doClash_54 rfl sh_77 (vinP hg22) ?_
        refine J_aload_n (pc' := 56) d_Md_doClash_55 rfl 2 rfl ?_
        refine J_iload_n (pc' := 57) d_Md_doClash_56 rfl 4 rfl ?_
        obtain ⟨r24, hq23, hf⟩ := bpE hf
        refine J_V (pc' := 60) (as := [.int v2]) (rest := [.int (σ.1 77 v2.toNatClampNeg), .int (σ.1 77 v1.toNatClampNeg)]) (st' := [.int r24, .int (σ.1 77 v2.toNatClampNeg), .int (σ.1 77 v1.toNatClampNeg)]) d_Md_doClash_57 rfl sh_66 rfl mv_Md_216 (ct_Md_lasts V _ σ v2 hq23) rfl rfl ⟨Nat.le_of_ble_eq_true rfl, Nat.le_of_ble_eq_true rfl⟩ ⟨rfl, rfl⟩ (Nat.le_of_ble_eq_true rfl) rfl ?_
        refine J_iadd (pc' := 61) d_Md_doClash_60 rfl ?_
        refine J_icmp_ge (pc' := 64) (tgt := 89) d_Md_doClash_61 rfl (by decide) (fun hc25 => ?_) (fun hc25 => ?_)
        · have hf := brT hc25 hf
          refine J_iconst (pc' := 90) (v := 0) d_Md_doClash_89 rfl ic_0 ?_
          obtain ⟨rfl, rfl⟩ := resE hf
          exact J_zret (by decide) d_Md_doClash_90
        · have hf := brF hc25 hf
          refine J_aload_n (pc' := 65) d_Md_doClash_64 rfl 2 rfl ?_
          refine J_getR (pc' := 68) d_Md_doClash_65 rfl sh_66 fl_Md_40 rfl ?_
          refine J_iload_n (pc' := 69) d_Md_doClash_68 rfl 3 rfl ?_
          obtain ⟨hg26, hf⟩ := gdE hf
          refine J_ial (pc' := 70) d_Md_doClash_69 rfl sh_77 (vinP hg26) ?_
          refine J_aload_n (pc' := 71) d_Md_doClash_70 rfl 2 rfl ?_
          refine J_iload_n (pc' := 72) d_Md_doClash_71 rfl 3 rfl ?_
          obtain ⟨r28, hq27, hf⟩ := bpE hf
          refine J_V (pc' := 75) (as := [.int v1]) (rest := [.int (σ.1 77 v1.toNatClampNeg)]) (st' := [.int r28, .int (σ.1 77 v1.toNatClampNeg)]) d_Md_doClash_72 rfl sh_66 rfl mv_Md_216 (ct_Md_lasts V _ σ v1 hq27) rfl rfl ⟨Nat.le_of_ble_eq_true rfl, Nat.le_of_ble_eq_true rfl⟩ ⟨rfl, rfl⟩ (Nat.le_of_ble_eq_true rfl) rfl ?_
          refine J_iadd (pc' := 76) d_Md_doClash_75 rfl ?_
          refine J_aload_n (pc' := 77) d_Md_doClash_76 rfl 2 rfl ?_
          refine J_getR (pc' := 80) d_Md_doClash_77 rfl sh_66 fl_Md_40 rfl ?_
          refine J_iload_n (pc' := 81) d_Md_doClash_80 rfl 4 rfl ?_
          obtain ⟨hg29, hf⟩ := gdE hf
          refine J_ial (pc' := 82) d_Md_doClash_81 rfl sh_77 (vinP hg29) ?_
          refine J_icmp_le (pc' := 85) (tgt := 89) d_Md_doClash_82 rfl (by decide) (fun hc30 => ?_) (fun hc30 => ?_)
          · have hf := brT hc30 hf
            refine J_iconst (pc' := 90) (v := 0) d_Md_doClash_89 rfl ic_0 ?_
            obtain ⟨rfl, rfl⟩ := resE hf
            exact J_zret (by decide) d_Md_doClash_90
          · have hf := brF hc30 hf
            refine J_iconst (pc' := 86) (v := 1) d_Md_doClash_85 rfl ic_1 ?_
            refine J_goto (tgt := 90) d_Md_doClash_86 (by decide) ?_
            obtain ⟨rfl, rfl⟩ := resE hf
            exact J_zret (by decide) d_Md_doClash_90
    · have hf := brT hc6 hf
      refine J_iconst (pc' := 17) (v := 0) d_Md_doClash_16 rfl ic_0 ?_
      obtain ⟨rfl, rfl⟩ := resE hf
      exact J_zret (by decide) d_Md_doClash_17
theorem ct_Md_doClash (V : Vx) (l : Launch) (σ : Sg) (v1 : Int32) (v2 : Int32) {r : Int32} {σ' : Sg} (hf : f_Md_doClash σ v1 v2 = some (r, σ')) : Ct V l y_Md_doClash c_Md_doClash 7 (some .boolean) (k2_rm 4 88) [rf V 66, .int v1, .int v2] σ (some (.int r)) σ' := Ct.ofJ (by decide +kernel) (Nat.le_of_ble_eq_true rfl) fun X _ => j_Md_doClash _ v1 v2 hf
def f_Md_clash (σ : Sg) (v1 : Int32) (v2 : Int32) (v3 : Int32) : Option (Int32 × Sg) :=
  if (f_Md_isTrip σ v1) = 0 then
    some ((-2), σ)
  else
    if (f_Md_isTrip σ v2) = 0 then
      some ((-2), σ)
    else
      if v1 = v2 then
        some ((-2), σ)
      else
        if (f_Md_isTwo v3) = 0 then
          some ((-2), σ)
        else
          (f_Md_asTold σ).bind fun σ6 =>
            bd (f_Md_doClash σ6 v1 v2) fun r9 σ8 =>
              if r9 = 0 then
                if v3 = 0 then some (0, σ8) else some ((-1), σ8)
              else
                gd (vin (5 * v1) 100) (
                  gd (vin (σ8.1 76 (5 * v1).toNatClampNeg) 8) (
                    gd (vin (5 * v2) 100) (
                      gd (vin (σ8.1 76 (5 * v2).toNatClampNeg) 8) (
                        if v3 = 0 then
                          some (1, σ8)
                        else
                          if (σ8.1 74 (σ8.1 76 (5 * v1).toNatClampNeg).toNatClampNeg) = (σ8.1 74 (σ8.1 76 (5 * v2).toNatClampNeg).toNatClampNeg) then
                            if v2 ≤ v1 then some (v1, σ8) else some (v2, σ8)
                          else
                            if (σ8.1 74 (σ8.1 76 (5 * v2).toNatClampNeg).toNatClampNeg) ≤ (σ8.1 74 (σ8.1 76 (5 * v1).toNatClampNeg).toNatClampNeg) then some (v1, σ8) else some (v2, σ8)))))
set_option maxHeartbeats 4000000 in
theorem j_Md_clash {V : Vx} {X : Xx} {r : Int32} {σ' : Sg} (σ : Sg) (v1 : Int32) (v2 : Int32) (v3 : Int32) (hf : f_Md_clash σ v1 v2 v3 = some (r, σ')) : J V X (k2_rm 5 114) c_Md_clash R_Md 6 (some .int) (Qr V X (some (.int r)) σ') σ 0 [(0, rf V 66), (1, .int v1), (2, .int v2), (3, .int v3)] [] := by
  unfold f_Md_clash at hf
  refine J_aload_n (pc' := 1) d_Md_clash_0 rfl 0 rfl ?_
  refine J_iload_n (pc' := 2) d_Md_clash_1 rfl 1 rfl ?_
  refine J_V (pc' := 5) (as := [.int v1]) (rest := []) (st' := [.int (f_Md_isTrip σ v1)]) d_Md_clash_2 rfl sh_66 rfl mv_Md_225 (ct_Md_isTrip V _ σ v1) rfl rfl ⟨Nat.le_of_ble_eq_true rfl, Nat.le_of_ble_eq_true rfl⟩ ⟨rfl, rfl⟩ (Nat.le_of_ble_eq_true rfl) rfl ?_
  refine J_if_eq (pc' := 8) (tgt := 28) d_Md_clash_5 rfl (by decide) (fun hc1 => ?_) (fun hc1 => ?_)
  · have hf := brT hc1 hf
    refine J_bipush (pc' := 30) (v := (-2)) d_Md_clash_28 rfl bc_m2 ?_
    obtain ⟨rfl, rfl⟩ := resE hf
    exact J_iret d_Md_clash_30
  · have hf := brF hc1 hf
    refine J_aload_n (pc' := 9) d_Md_clash_8 rfl 0 rfl ?_
    refine J_iload_n (pc' := 10) d_Md_clash_9 rfl 2 rfl ?_
    refine J_V (pc' := 13) (as := [.int v2]) (rest := []) (st' := [.int (f_Md_isTrip σ v2)]) d_Md_clash_10 rfl sh_66 rfl mv_Md_225 (ct_Md_isTrip V _ σ v2) rfl rfl ⟨Nat.le_of_ble_eq_true rfl, Nat.le_of_ble_eq_true rfl⟩ ⟨rfl, rfl⟩ (Nat.le_of_ble_eq_true rfl) rfl ?_
    refine J_if_eq (pc' := 16) (tgt := 28) d_Md_clash_13 rfl (by decide) (fun hc2 => ?_) (fun hc2 => ?_)
    · have hf := brT hc2 hf
      refine J_bipush (pc' := 30) (v := (-2)) d_Md_clash_28 rfl bc_m2 ?_
      obtain ⟨rfl, rfl⟩ := resE hf
      exact J_iret d_Md_clash_30
    · have hf := brF hc2 hf
      refine J_iload_n (pc' := 17) d_Md_clash_16 rfl 1 rfl ?_
      refine J_iload_n (pc' := 18) d_Md_clash_17 rfl 2 rfl ?_
      refine J_icmp_eq (pc' := 21) (tgt := 28) d_Md_clash_18 rfl (by decide) (fun hc3 => ?_) (fun hc3 => ?_)
      · have hf := brT hc3 hf
        refine J_bipush (pc' := 30) (v := (-2)) d_Md_clash_28 rfl bc_m2 ?_
        obtain ⟨rfl, rfl⟩ := resE hf
        exact J_iret d_Md_clash_30
      · have hf := brF hc3 hf
        refine J_iload_n (pc' := 22) d_Md_clash_21 rfl 3 rfl ?_
        refine J_S (pc' := 25) (as := [.int v3]) (rest := []) (st' := [.int (f_Md_isTwo v3)]) d_Md_clash_22 rfl ms_Md_106 (ct_Md_isTwo V _ σ v3) rfl rfl ⟨Nat.le_of_ble_eq_true rfl, Nat.le_of_ble_eq_true rfl⟩ ⟨rfl, rfl⟩ (Nat.le_of_ble_eq_true rfl) rfl ?_
        refine J_if_ne (pc' := 28) (tgt := 31) d_Md_clash_25 rfl (by decide) (fun hc4 => ?_) (fun hc4 => ?_)
        · have hf := brF hc4 hf
          refine J_aload_n (pc' := 32) d_Md_clash_31 rfl 0 rfl ?_
          obtain ⟨σ6, hq5, hf⟩ := bpE hf
          refine J_V (pc' := 35) (as := []) (rest := []) (st' := []) d_Md_clash_32 rfl sh_66 rfl mv_Md_228 (ct_Md_asTold V _ σ hq5) rfl rfl ⟨Nat.le_of_ble_eq_true rfl, Nat.le_of_ble_eq_true rfl⟩ ⟨rfl, rfl⟩ (Nat.le_of_ble_eq_true rfl) rfl ?_
          refine J_aload_n (pc' := 36) d_Md_clash_35 rfl 0 rfl ?_
          refine J_iload_n (pc' := 37) d_Md_clash_36 rfl 1 rfl ?_
          refine J_iload_n (pc' := 38) d_Md_clash_37 rfl 2 rfl ?_
          obtain ⟨r9, σ8, hq7, hf⟩ := bdE hf
          refine J_V (pc' := 41) (as := [.int v1, .int v2]) (rest := []) (st' := [.int r9]) d_Md_clash_38 rfl sh_66 rfl mv_Md_231 (ct_Md_doClash V _ σ6 v1 v2 hq7) rfl rfl ⟨Nat.le_of_ble_eq_true rfl, Nat.le_of_ble_eq_true rfl⟩ ⟨rfl, rfl⟩ (Nat.le_of_ble_eq_true rfl) rfl ?_
          refine J_if_ne (pc' := 44) (tgt := 54) d_Md_clash_41 rfl (by decide) (fun hc10 => ?_) (fun hc10 => ?_)
          · have hf := brF hc10 hf
            refine J_aload_n (pc' := 55) d_Md_clash_54 rfl 0 rfl ?_
            refine J_getR (pc' := 58) d_Md_clash_55 rfl sh_66 fl_Md_31 rfl ?_
            refine J_aload_n (pc' := 59) d_Md_clash_58 rfl 0 rfl ?_
            refine J_getR (pc' := 62) d_Md_clash_59 rfl sh_66 fl_Md_37 rfl ?_
            refine J_iconst (pc' := 63) (v := 5) d_Md_clash_62 rfl ic_5 ?_
            refine J_iload_n (pc' := 64) d_Md_clash_63 rfl 1 rfl ?_
            refine J_imul (pc' := 65) d_Md_clash_64 rfl ?_
            obtain ⟨hg11, hf⟩ := gdE hf
            refine J_ial (pc' := 66) d_Md_clash_65 rfl sh_76 (vinP hg11) ?_
            obtain ⟨hg12, hf⟩ := gdE hf
            refine J_ial (pc' := 67) d_Md_clash_66 rfl sh_74 (vinP hg12) ?_
            refine J_istore (pc' := 69) (lv' := [(4, .int (σ8.1 74 (σ8.1 76 (5 * v1).toNatClampNeg).toNatClampNeg)), (0, rf V 66), (1, .int v1), (2, .int v2), (3, .int v3)]) d_Md_clash_67 rfl (by decide) rfl ?_
            refine J_aload_n (pc' := 70) d_Md_clash_69 rfl 1 rfl ?_
            refine J_getR (pc' := 73) d_Md_clash_70 rfl sh_66 fl_Md_31 rfl ?_
            refine J_aload_n (pc' := 74) d_Md_clash_73 rfl 1 rfl ?_
            refine J_getR (pc' := 77) d_Md_clash_74 rfl sh_66 fl_Md_37 rfl ?_
            refine J_iconst (pc' := 78) (v := 5) d_Md_clash_77 rfl ic_5 ?_
            refine J_iload_n (pc' := 79) d_Md_clash_78 rfl 3 rfl ?_
            refine J_imul (pc' := 80) d_Md_clash_79 rfl ?_
            obtain ⟨hg13, hf⟩ := gdE hf
            refine J_ial (pc' := 81) d_Md_clash_80 rfl sh_76 (vinP hg13) ?_
            obtain ⟨hg14, hf⟩ := gdE hf
            refine J_ial (pc' := 82) d_Md_clash_81 rfl sh_74 (vinP hg14) ?_
            refine J_istore (pc' := 84) (lv' := [(5, .int (σ8.1 74 (σ8.1 76 (5 * v2).toNatClampNeg).toNatClampNeg)), (4, .int (σ8.1 74 (σ8.1 76 (5 * v1).toNatClampNeg).toNatClampNeg)), (0, rf V 66), (1, .int v1), (2, .int v2), (3, .int v3)]) d_Md_clash_82 rfl (by decide) rfl ?_
            refine J_iload_n (pc' := 85) d_Md_clash_84 rfl 5 rfl ?_
            refine J_if_ne (pc' := 88) (tgt := 92) d_Md_clash_85 rfl (by decide) (fun hc15 => ?_) (fun hc15 => ?_)
            · have hf := brF hc15 hf
              refine J_iload (pc' := 94) d_Md_clash_92 rfl 1 rfl ?_
              refine J_iload (pc' := 96) d_Md_clash_94 rfl 0 rfl ?_
              refine J_icmp_ne (pc' := 99) (tgt := 112) d_Md_clash_96 rfl (by decide) (fun hc16 => ?_) (fun hc16 => ?_)
              · have hf := brF hc16 hf
                refine J_iload (pc' := 114) d_Md_clash_112 rfl 1 rfl ?_
                refine J_iload (pc' := 116) d_Md_clash_114 rfl 0 rfl ?_
                refine J_icmp_ge (pc' := 119) (tgt := 123) d_Md_clash_116 rfl (by decide) (fun hc17 => ?_) (fun hc17 => ?_)
                · have hf := brT hc17 hf
                  refine J_iload_n (pc' := 124) d_Md_clash_123 rfl 3 rfl ?_
                  obtain ⟨rfl, rfl⟩ := resE hf
                  exact J_iret d_Md_clash_124
                · have hf := brF hc17 hf
                  refine J_iload_n (pc' := 120) d_Md_clash_119 rfl 4 rfl ?_
                  refine J_goto (tgt := 124) d_Md_clash_120 (by decide) ?_
                  obtain ⟨rfl, rfl⟩ := resE hf
                  exact J_iret d_Md_clash_124
              · have hf := brT hc16 hf
                refine J_iload_n (pc' := 100) d_Md_clash_99 rfl 3 rfl ?_
                refine J_iload_n (pc' := 101) d_Md_clash_100 rfl 4 rfl ?_
                refine J_icmp_ge (pc' := 104) (tgt := 108) d_Md_clash_101 rfl (by decide) (fun hc18 => ?_) (fun hc18 => ?_)
                · have hf := brT hc18 hf
                  refine J_iload_n (pc' := 109) d_Md_clash_108 rfl 3 rfl ?_
                  refine J_goto (tgt := 124) d_Md_clash_109 (by decide) ?_
                  obtain ⟨rfl, rfl⟩ := resE hf
                  exact J_iret d_Md_clash_124
                · have hf := brF hc18 hf
                  refine J_iload_n (pc' := 105) d_Md_clash_104 rfl 4 rfl ?_
                  refine J_goto (tgt := 124) d_Md_clash_105 (by decide) ?_
                  obtain ⟨rfl, rfl⟩ := resE hf
                  exact J_iret d_Md_clash_124
            · have hf := brT hc15 hf
              refine J_iconst (pc' := 89) (v := 1) d_Md_clash_88 rfl ic_1 ?_
              refine J_goto (tgt := 124) d_Md_clash_89 (by decide) ?_
              obtain ⟨rfl, rfl⟩ := resE hf
              exact J_iret d_Md_clash_124
          · have hf := brT hc10 hf
            refine J_iload_n (pc' := 45) d_Md_clash_44 rfl 3 rfl ?_
            refine J_if_ne (pc' := 48) (tgt := 52) d_Md_clash_45 rfl (by decide) (fun hc19 => ?_) (fun hc19 => ?_)
            · have hf := brF hc19 hf
              refine J_iconst (pc' := 53) (v := (-1)) d_Md_clash_52 rfl ic_m1 ?_
              obtain ⟨rfl, rfl⟩ := resE hf
              exact J_iret d_Md_clash_53
            · have hf := brT hc19 hf
              refine J_iconst (pc' := 49) (v := 0) d_Md_clash_48 rfl ic_0 ?_
              refine J_goto (tgt := 53) d_Md_clash_49 (by decide) ?_
              obtain ⟨rfl, rfl⟩ := resE hf
              exact J_iret d_Md_clash_53
        · have hf := brT hc4 hf
          refine J_bipush (pc' := 30) (v := (-2)) d_Md_clash_28 rfl bc_m2 ?_
          obtain ⟨rfl, rfl⟩ := resE hf
          exact J_iret d_Md_clash_30
theorem ct_Md_clash (V : Vx) (l : Launch) (σ : Sg) (v1 : Int32) (v2 : Int32) (v3 : Int32) {r : Int32} {σ' : Sg} (hf : f_Md_clash σ v1 v2 v3 = some (r, σ')) : Ct V l y_Md_clash c_Md_clash 6 (some .int) (k2_rm 5 114) [rf V 66, .int v1, .int v2, .int v3] σ (some (.int r)) σ' := Ct.ofJ (by decide +kernel) (Nat.le_of_ble_eq_true rfl) fun X _ => j_Md_clash _ v1 v2 v3 hf
def f_Md_clashesNow_34 (k4 : Sg → Int32 → Int32 → Option (Int32 × Sg)) (k14 : Sg → Int32 → Int32 → Int32 → Option (Int32 × Sg)) (σ : Sg) (v2 : Int32) (v3 : Int32) (s0 : Int32) (s1 : Int32) : Option (Int32 × Sg) :=
  k14 σ (s1 + s0) v2 (v3 + 1)
set_option maxHeartbeats 4000000 in
theorem j_Md_clashesNow_34 {V : Vx} {X : Xx} {r : Int32} {σ' : Sg} {k4 : Sg → Int32 → Int32 → Option (Int32 × Sg)} {k14 : Sg → Int32 → Int32 → Int32 → Option (Int32 × Sg)} (hk4 : ∀ (σ : Sg) (v1 : Int32) (v2 : Int32), k4 σ v1 v2 = some (r, σ') → J V X (k2_rm 5 114) c_Md_clashesNow R_Md 4 (some .int) (Qr V X (some (.int r)) σ') σ 4 [(0, rf V 66), (1, .int v1), (2, .int v2)] []) (hk14 : ∀ (σ : Sg) (v1 : Int32) (v2 : Int32) (v3 : Int32), k14 σ v1 v2 v3 = some (r, σ') → J V X (k2_rm 5 114) c_Md_clashesNow R_Md 4 (some .int) (Qr V X (some (.int r)) σ') σ 14 [(0, rf V 66), (1, .int v1), (2, .int v2), (3, .int v3)] []) (σ : Sg) (v2 : Int32) (v3 : Int32) (s0 : Int32) (s1 : Int32) (hf : f_Md_clashesNow_34 k4 k14 σ v2 v3 s0 s1 = some (r, σ')) : J V X (k2_rm 5 114) c_Md_clashesNow R_Md 4 (some .int) (Qr V X (some (.int r)) σ') σ 34 [(0, rf V 66), (2, .int v2), (3, .int v3)] [.int s0, .int s1] := by
  unfold f_Md_clashesNow_34 at hf
  refine J_iadd (pc' := 35) d_Md_clashesNow_34 rfl ?_
  refine J_istore_n (pc' := 36) (lv' := [(1, .int (s1 + s0)), (0, rf V 66), (2, .int v2), (3, .int v3)]) d_Md_clashesNow_35 rfl rfl (by decide) rfl ?_
  refine J_iinc (pc' := 39) (j := 3) (v := 1) (lv' := [(3, .int (v3 + 1)), (1, .int (s1 + s0)), (0, rf V 66), (2, .int v2)]) d_Md_clashesNow_36 rfl rfl ic_1 (by decide) rfl ?_
  refine J_goto (tgt := 14) d_Md_clashesNow_39 (by decide) ?_
  refine J_pick [2, 1, 3, 0] rfl ?_
  exact hk14 _ _ _ _ hf
def f_Md_clashesNow_14 (k4 : Sg → Int32 → Int32 → Option (Int32 × Sg)) : Nat → Sg → Int32 → Int32 → Int32 → Option (Int32 × Sg)
  | 0, _, _, _, _ => none
  | n + 1, σ, v1, v2, v3 =>
    if v2 ≤ v3 then
      k4 σ v1 (v2 + 1)
    else
      bd (f_Md_doClash σ v2 v3) fun r5 σ4 =>
        if r5 = 0 then
          f_Md_clashesNow_34 k4 (f_Md_clashesNow_14 k4 n) σ4 v2 v3 0 v1
        else
          f_Md_clashesNow_34 k4 (f_Md_clashesNow_14 k4 n) σ4 v2 v3 1 v1
theorem f_Md_clashesNow_14_s (k4 : Sg → Int32 → Int32 → Option (Int32 × Sg)) (n : Nat) (σ : Sg) (v1 : Int32) (v2 : Int32) (v3 : Int32) : f_Md_clashesNow_14 k4 (n + 1) σ v1 v2 v3 =
    if v2 ≤ v3 then
      k4 σ v1 (v2 + 1)
    else
      bd (f_Md_doClash σ v2 v3) fun r5 σ4 =>
        if r5 = 0 then
          f_Md_clashesNow_34 k4 (f_Md_clashesNow_14 k4 n) σ4 v2 v3 0 v1
        else
          f_Md_clashesNow_34 k4 (f_Md_clashesNow_14 k4 n) σ4 v2 v3 1 v1 := rfl
set_option maxHeartbeats 4000000 in
theorem j_Md_clashesNow_14 {V : Vx} {X : Xx} {r : Int32} {σ' : Sg} {k4 : Sg → Int32 → Int32 → Option (Int32 × Sg)} (hk4 : ∀ (σ : Sg) (v1 : Int32) (v2 : Int32), k4 σ v1 v2 = some (r, σ') → J V X (k2_rm 5 114) c_Md_clashesNow R_Md 4 (some .int) (Qr V X (some (.int r)) σ') σ 4 [(0, rf V 66), (1, .int v1), (2, .int v2)] []) : ∀ (n : Nat) (σ : Sg) (v1 : Int32) (v2 : Int32) (v3 : Int32), f_Md_clashesNow_14 k4 n σ v1 v2 v3 = some (r, σ') → J V X (k2_rm 5 114) c_Md_clashesNow R_Md 4 (some .int) (Qr V X (some (.int r)) σ') σ 14 [(0, rf V 66), (1, .int v1), (2, .int v2), (3, .int v3)] [] := by
  intro n
  induction n with
  | zero => intro σ v1 v2 v3 hf; exact nn hf
  | succ n ih =>
    intro σ v1 v2 v3 hf
    rw [f_Md_clashesNow_14_s] at hf
    refine J_iload_n (pc' := 15) d_Md_clashesNow_14 rfl 3 rfl ?_
    refine J_iload_n (pc' := 16) d_Md_clashesNow_15 rfl 2 rfl ?_
    refine J_icmp_ge (pc' := 19) (tgt := 42) d_Md_clashesNow_16 rfl (by decide) (fun hc2 => ?_) (fun hc2 => ?_)
    · have hf := brT hc2 hf
      refine J_iinc (pc' := 45) (j := 2) (v := 1) (lv' := [(2, .int (v2 + 1)), (0, rf V 66), (1, .int v1), (3, .int v3)]) d_Md_clashesNow_42 rfl rfl ic_1 (by decide) rfl ?_
      refine J_goto (tgt := 4) d_Md_clashesNow_45 (by decide) ?_
      refine J_pick [1, 2, 0] rfl ?_
      exact hk4 _ _ _ hf
    · have hf := brF hc2 hf
      refine J_iload_n (pc' := 20) d_Md_clashesNow_19 rfl 1 rfl ?_
      refine J_aload_n (pc' := 21) d_Md_clashesNow_20 rfl 0 rfl ?_
      refine J_iload_n (pc' := 22) d_Md_clashesNow_21 rfl 2 rfl ?_
      refine J_iload_n (pc' := 23) d_Md_clashesNow_22 rfl 3 rfl ?_
      obtain ⟨r5, σ4, hq3, hf⟩ := bdE hf
      refine J_V (pc' := 26) (as := [.int v2, .int v3]) (rest := [.int v1]) (st' := [.int r5, .int v1]) d_Md_clashesNow_23 rfl sh_66 rfl mv_Md_231 (ct_Md_doClash V _ σ v2 v3 hq3) rfl rfl ⟨Nat.le_of_ble_eq_true rfl, Nat.le_of_ble_eq_true rfl⟩ ⟨rfl, rfl⟩ (Nat.le_of_ble_eq_true rfl) rfl ?_
      refine J_if_eq (pc' := 29) (tgt := 33) d_Md_clashesNow_26 rfl (by decide) (fun hc6 => ?_) (fun hc6 => ?_)
      · have hf := brT hc6 hf
        refine J_iconst (pc' := 34) (v := 0) d_Md_clashesNow_33 rfl ic_0 ?_
        refine J_pick [0, 2, 3] rfl ?_
        exact j_Md_clashesNow_34 hk4 ih _ _ _ _ _ hf
      · have hf := brF hc6 hf
        refine J_iconst (pc' := 30) (v := 1) d_Md_clashesNow_29 rfl ic_1 ?_
        refine J_goto (tgt := 34) d_Md_clashesNow_30 (by decide) ?_
        refine J_pick [0, 2, 3] rfl ?_
        exact j_Md_clashesNow_34 hk4 ih _ _ _ _ _ hf
def f_Md_clashesNow_4 : Nat → Sg → Int32 → Int32 → Option (Int32 × Sg)
  | 0, _, _, _ => none
  | n + 1, σ, v1, v2 =>
    if (σ.1 66 14) ≤ v2 then some (v1, σ) else f_Md_clashesNow_14 (f_Md_clashesNow_4 n) FU σ v1 v2 0
theorem f_Md_clashesNow_4_s (n : Nat) (σ : Sg) (v1 : Int32) (v2 : Int32) : f_Md_clashesNow_4 (n + 1) σ v1 v2 =
    if (σ.1 66 14) ≤ v2 then some (v1, σ) else f_Md_clashesNow_14 (f_Md_clashesNow_4 n) FU σ v1 v2 0 := rfl
set_option maxHeartbeats 4000000 in
theorem j_Md_clashesNow_4 {V : Vx} {X : Xx} {r : Int32} {σ' : Sg}  : ∀ (n : Nat) (σ : Sg) (v1 : Int32) (v2 : Int32), f_Md_clashesNow_4 n σ v1 v2 = some (r, σ') → J V X (k2_rm 5 114) c_Md_clashesNow R_Md 4 (some .int) (Qr V X (some (.int r)) σ') σ 4 [(0, rf V 66), (1, .int v1), (2, .int v2)] [] := by
  intro n
  induction n with
  | zero => intro σ v1 v2 hf; exact nn hf
  | succ n ih =>
    intro σ v1 v2 hf
    rw [f_Md_clashesNow_4_s] at hf
    refine J_iload_n (pc' := 5) d_Md_clashesNow_4 rfl 2 rfl ?_
    refine J_aload_n (pc' := 6) d_Md_clashesNow_5 rfl 0 rfl ?_
    refine J_getI (pc' := 9) d_Md_clashesNow_6 rfl sh_66 fl_Md_209 rfl ?_
    refine J_icmp_ge (pc' := 12) (tgt := 48) d_Md_clashesNow_9 rfl (by decide) (fun hc1 => ?_) (fun hc1 => ?_)
    · have hf := brT hc1 hf
      refine J_iload_n (pc' := 49) d_Md_clashesNow_48 rfl 1 rfl ?_
      obtain ⟨rfl, rfl⟩ := resE hf
      exact J_iret d_Md_clashesNow_49
    · have hf := brF hc1 hf
      refine J_iconst (pc' := 13) (v := 0) d_Md_clashesNow_12 rfl ic_0 ?_
      refine J_istore_n (pc' := 14) (lv' := [(3, .int 0), (0, rf V 66), (1, .int v1), (2, .int v2)]) d_Md_clashesNow_13 rfl rfl (by decide) rfl ?_
      refine J_pick [1, 2, 3, 0] rfl ?_
      exact j_Md_clashesNow_14 ih FU _ _ _ _ hf
def f_Md_clashesNow (σ : Sg)  : Option (Int32 × Sg) :=
  f_Md_clashesNow_4 FU σ 0 0
set_option maxHeartbeats 4000000 in
theorem j_Md_clashesNow {V : Vx} {X : Xx} {r : Int32} {σ' : Sg} (σ : Sg) (hf : f_Md_clashesNow σ = some (r, σ')) : J V X (k2_rm 5 114) c_Md_clashesNow R_Md 4 (some .int) (Qr V X (some (.int r)) σ') σ 0 [(0, rf V 66)] [] := by
  unfold f_Md_clashesNow at hf
  refine J_iconst (pc' := 1) (v := 0) d_Md_clashesNow_0 rfl ic_0 ?_
  refine J_istore_n (pc' := 2) (lv' := [(1, .int 0), (0, rf V 66)]) d_Md_clashesNow_1 rfl rfl (by decide) rfl ?_
  refine J_iconst (pc' := 3) (v := 0) d_Md_clashesNow_2 rfl ic_0 ?_
  refine J_istore_n (pc' := 4) (lv' := [(2, .int 0), (1, .int 0), (0, rf V 66)]) d_Md_clashesNow_3 rfl rfl (by decide) rfl ?_
  refine J_pick [2, 1, 0] rfl ?_
  exact j_Md_clashesNow_4 FU _ _ _ hf
theorem ct_Md_clashesNow (V : Vx) (l : Launch) (σ : Sg) {r : Int32} {σ' : Sg} (hf : f_Md_clashesNow σ = some (r, σ')) : Ct V l y_Md_clashesNow c_Md_clashesNow 4 (some .int) (k2_rm 5 114) [rf V 66] σ (some (.int r)) σ' := Ct.ofJ (by decide +kernel) (Nat.le_of_ble_eq_true rfl) fun X _ => j_Md_clashesNow _  hf
def f_Md_clashes (σ : Sg)  : Option (Int32 × Sg) :=
  (f_Md_asTold σ).bind fun σ2 =>
    bd (f_Md_clashesNow σ2) fun r5 σ4 =>
      some (r5, σ4)
set_option maxHeartbeats 4000000 in
theorem j_Md_clashes {V : Vx} {X : Xx} {r : Int32} {σ' : Sg} (σ : Sg) (hf : f_Md_clashes σ = some (r, σ')) : J V X (k2_rm 6 137) c_Md_clashes R_Md 1 (some .int) (Qr V X (some (.int r)) σ') σ 0 [(0, rf V 66)] [] := by
  unfold f_Md_clashes at hf
  refine J_aload_n (pc' := 1) d_Md_clashes_0 rfl 0 rfl ?_
  obtain ⟨σ2, hq1, hf⟩ := bpE hf
  refine J_V (pc' := 4) (as := []) (rest := []) (st' := []) d_Md_clashes_1 rfl sh_66 rfl mv_Md_228 (ct_Md_asTold V _ σ hq1) rfl rfl ⟨Nat.le_of_ble_eq_true rfl, Nat.le_of_ble_eq_true rfl⟩ ⟨rfl, rfl⟩ (Nat.le_of_ble_eq_true rfl) rfl ?_
  refine J_aload_n (pc' := 5) d_Md_clashes_4 rfl 0 rfl ?_
  obtain ⟨r5, σ4, hq3, hf⟩ := bdE hf
  refine J_V (pc' := 8) (as := []) (rest := []) (st' := [.int r5]) d_Md_clashes_5 rfl sh_66 rfl mv_Md_234 (ct_Md_clashesNow V _ σ2 hq3) rfl rfl ⟨Nat.le_of_ble_eq_true rfl, Nat.le_of_ble_eq_true rfl⟩ ⟨rfl, rfl⟩ (Nat.le_of_ble_eq_true rfl) rfl ?_
  obtain ⟨rfl, rfl⟩ := resE hf
  exact J_iret d_Md_clashes_8
theorem ct_Md_clashes (V : Vx) (l : Launch) (σ : Sg) {r : Int32} {σ' : Sg} (hf : f_Md_clashes σ = some (r, σ')) : Ct V l y_Md_clashes c_Md_clashes 1 (some .int) (k2_rm 6 137) [rf V 66] σ (some (.int r)) σ' := Ct.ofJ (by decide +kernel) (Nat.le_of_ble_eq_true rfl) fun X _ => j_Md_clashes _  hf
def f_Md_isAhead (σ : Sg) (v1 : Int32) (v2 : Int32) : Option Int32 :=
  gd (vin (5 * v1) 100) (
    gd (vin (σ.1 76 (5 * v1).toNatClampNeg) 8) (
      gd (vin (5 * v2) 100) (
        gd (vin (σ.1 76 (5 * v2).toNatClampNeg) 8) (
          if (σ.1 74 (σ.1 76 (5 * v1).toNatClampNeg).toNatClampNeg) < (σ.1 74 (σ.1 76 (5 * v2).toNatClampNeg).toNatClampNeg) then
            some 1
          else
            if (σ.1 74 (σ.1 76 (5 * v1).toNatClampNeg).toNatClampNeg) = (σ.1 74 (σ.1 76 (5 * v2).toNatClampNeg).toNatClampNeg) then if v2 ≤ v1 then some 0 else some 1 else some 0))))
set_option maxHeartbeats 4000000 in
theorem j_Md_isAhead {V : Vx} {X : Xx} {r : Int32} (σ : Sg) (v1 : Int32) (v2 : Int32) (hf : f_Md_isAhead σ v1 v2 = some r) : J V X (k2_rm 0 0) c_Md_isAhead R_Md 5 (some .boolean) (Qr V X (some (.int r)) σ) σ 0 [(0, rf V 66), (1, .int v1), (2, .int v2)] [] := by
  unfold f_Md_isAhead at hf
  refine J_aload_n (pc' := 1) d_Md_isAhead_0 rfl 0 rfl ?_
  refine J_getR (pc' := 4) d_Md_isAhead_1 rfl sh_66 fl_Md_31 rfl ?_
  refine J_aload_n (pc' := 5) d_Md_isAhead_4 rfl 0 rfl ?_
  refine J_getR (pc' := 8) d_Md_isAhead_5 rfl sh_66 fl_Md_37 rfl ?_
  refine J_iconst (pc' := 9) (v := 5) d_Md_isAhead_8 rfl ic_5 ?_
  refine J_iload_n (pc' := 10) d_Md_isAhead_9 rfl 1 rfl ?_
  refine J_imul (pc' := 11) d_Md_isAhead_10 rfl ?_
  obtain ⟨hg1, hf⟩ := gdE hf
  refine J_ial (pc' := 12) d_Md_isAhead_11 rfl sh_76 (vinP hg1) ?_
  obtain ⟨hg2, hf⟩ := gdE hf
  refine J_ial (pc' := 13) d_Md_isAhead_12 rfl sh_74 (vinP hg2) ?_
  refine J_istore_n (pc' := 14) (lv' := [(3, .int (σ.1 74 (σ.1 76 (5 * v1).toNatClampNeg).toNatClampNeg)), (0, rf V 66), (1, .int v1), (2, .int v2)]) d_Md_isAhead_13 rfl rfl (by decide) rfl ?_
  refine J_aload_n (pc' := 15) d_Md_isAhead_14 rfl 1 rfl ?_
  refine J_getR (pc' := 18) d_Md_isAhead_15 rfl sh_66 fl_Md_31 rfl ?_
  refine J_aload_n (pc' := 19) d_Md_isAhead_18 rfl 1 rfl ?_
  refine J_getR (pc' := 22) d_Md_isAhead_19 rfl sh_66 fl_Md_37 rfl ?_
  refine J_iconst (pc' := 23) (v := 5) d_Md_isAhead_22 rfl ic_5 ?_
  refine J_iload_n (pc' := 24) d_Md_isAhead_23 rfl 3 rfl ?_
  refine J_imul (pc' := 25) d_Md_isAhead_24 rfl ?_
  obtain ⟨hg3, hf⟩ := gdE hf
  refine J_ial (pc' := 26) d_Md_isAhead_25 rfl sh_76 (vinP hg3) ?_
  obtain ⟨hg4, hf⟩ := gdE hf
  refine J_ial (pc' := 27) d_Md_isAhead_26 rfl sh_74 (vinP hg4) ?_
  refine J_istore (pc' := 29) (lv' := [(4, .int (σ.1 74 (σ.1 76 (5 * v2).toNatClampNeg).toNatClampNeg)), (3, .int (σ.1 74 (σ.1 76 (5 * v1).toNatClampNeg).toNatClampNeg)), (0, rf V 66), (1, .int v1), (2, .int v2)]) d_Md_isAhead_27 rfl (by decide) rfl ?_
  refine J_iload_n (pc' := 30) d_Md_isAhead_29 rfl 1 rfl ?_
  refine J_iload (pc' := 32) d_Md_isAhead_30 rfl 0 rfl ?_
  refine J_icmp_lt (pc' := 35) (tgt := 46) d_Md_isAhead_32 rfl (by decide) (fun hc5 => ?_) (fun hc5 => ?_)
  · have hf := brT hc5 hf
    refine J_iconst (pc' := 47) (v := 1) d_Md_isAhead_46 rfl ic_1 ?_
    refine J_goto (tgt := 51) d_Md_isAhead_47 (by decide) ?_
    obtain rfl := Option.some.inj hf
    exact J_zret (by decide) d_Md_isAhead_51
  · have hf := brF hc5 hf
    refine J_iload_n (pc' := 36) d_Md_isAhead_35 rfl 1 rfl ?_
    refine J_iload (pc' := 38) d_Md_isAhead_36 rfl 0 rfl ?_
    refine J_icmp_ne (pc' := 41) (tgt := 50) d_Md_isAhead_38 rfl (by decide) (fun hc6 => ?_) (fun hc6 => ?_)
    · have hf := brF hc6 hf
      refine J_iconst (pc' := 51) (v := 0) d_Md_isAhead_50 rfl ic_0 ?_
      obtain rfl := Option.some.inj hf
      exact J_zret (by decide) d_Md_isAhead_51
    · have hf := brT hc6 hf
      refine J_iload_n (pc' := 42) d_Md_isAhead_41 rfl 3 rfl ?_
      refine J_iload_n (pc' := 43) d_Md_isAhead_42 rfl 4 rfl ?_
      refine J_icmp_ge (pc' := 46) (tgt := 50) d_Md_isAhead_43 rfl (by decide) (fun hc7 => ?_) (fun hc7 => ?_)
      · have hf := brT hc7 hf
        refine J_iconst (pc' := 51) (v := 0) d_Md_isAhead_50 rfl ic_0 ?_
        obtain rfl := Option.some.inj hf
        exact J_zret (by decide) d_Md_isAhead_51
      · have hf := brF hc7 hf
        refine J_iconst (pc' := 47) (v := 1) d_Md_isAhead_46 rfl ic_1 ?_
        refine J_goto (tgt := 51) d_Md_isAhead_47 (by decide) ?_
        obtain rfl := Option.some.inj hf
        exact J_zret (by decide) d_Md_isAhead_51
theorem ct_Md_isAhead (V : Vx) (l : Launch) (σ : Sg) (v1 : Int32) (v2 : Int32) {r : Int32} (hf : f_Md_isAhead σ v1 v2 = some r) : Ct V l y_Md_isAhead c_Md_isAhead 5 (some .boolean) (k2_rm 0 0) [rf V 66, .int v1, .int v2] σ (some (.int r)) σ := Ct.ofJ (by decide +kernel) (Nat.le_of_ble_eq_true rfl) fun X _ => j_Md_isAhead _ v1 v2 hf
def f_Md_clashesAhead_52 (k4 : Sg → Int32 → Int32 → Int32 → Option (Int32 × Sg)) (σ : Sg) (v1 : Int32) (v3 : Int32) (s0 : Int32) : Option (Int32 × Sg) :=
  k4 σ v1 s0 (v3 + 1)
set_option maxHeartbeats 4000000 in
theorem j_Md_clashesAhead_52 {V : Vx} {X : Xx} {r : Int32} {σ' : Sg} {k4 : Sg → Int32 → Int32 → Int32 → Option (Int32 × Sg)} (hk4 : ∀ (σ : Sg) (v1 : Int32) (v2 : Int32) (v3 : Int32), k4 σ v1 v2 v3 = some (r, σ') → J V X (k2_rm 5 114) c_Md_clashesAhead R_Md 4 (some .boolean) (Qr V X (some (.int r)) σ') σ 4 [(0, rf V 66), (1, .int v1), (2, .int v2), (3, .int v3)] []) (σ : Sg) (v1 : Int32) (v3 : Int32) (s0 : Int32) (hf : f_Md_clashesAhead_52 k4 σ v1 v3 s0 = some (r, σ')) : J V X (k2_rm 5 114) c_Md_clashesAhead R_Md 4 (some .boolean) (Qr V X (some (.int r)) σ') σ 52 [(0, rf V 66), (1, .int v1), (3, .int v3)] [.int s0] := by
  unfold f_Md_clashesAhead_52 at hf
  refine J_istore_n (pc' := 53) (lv' := [(2, .int s0), (0, rf V 66), (1, .int v1), (3, .int v3)]) d_Md_clashesAhead_52 rfl rfl (by decide) rfl ?_
  refine J_iinc (pc' := 56) (j := 3) (v := 1) (lv' := [(3, .int (v3 + 1)), (2, .int s0), (0, rf V 66), (1, .int v1)]) d_Md_clashesAhead_53 rfl rfl ic_1 (by decide) rfl ?_
  refine J_goto (tgt := 4) d_Md_clashesAhead_56 (by decide) ?_
  refine J_pick [2, 3, 1, 0] rfl ?_
  exact hk4 _ _ _ _ hf
def f_Md_clashesAhead_47 (k4 : Sg → Int32 → Int32 → Int32 → Option (Int32 × Sg)) (σ : Sg) (v1 : Int32) (v3 : Int32) : Option (Int32 × Sg) :=
  f_Md_clashesAhead_52 k4 σ v1 v3 1
set_option maxHeartbeats 4000000 in
theorem j_Md_clashesAhead_47 {V : Vx} {X : Xx} {r : Int32} {σ' : Sg} {k4 : Sg → Int32 → Int32 → Int32 → Option (Int32 × Sg)} (hk4 : ∀ (σ : Sg) (v1 : Int32) (v2 : Int32) (v3 : Int32), k4 σ v1 v2 v3 = some (r, σ') → J V X (k2_rm 5 114) c_Md_clashesAhead R_Md 4 (some .boolean) (Qr V X (some (.int r)) σ') σ 4 [(0, rf V 66), (1, .int v1), (2, .int v2), (3, .int v3)] []) (σ : Sg) (v1 : Int32) (v3 : Int32) (hf : f_Md_clashesAhead_47 k4 σ v1 v3 = some (r, σ')) : J V X (k2_rm 5 114) c_Md_clashesAhead R_Md 4 (some .boolean) (Qr V X (some (.int r)) σ') σ 47 [(0, rf V 66), (1, .int v1), (3, .int v3)] [] := by
  unfold f_Md_clashesAhead_47 at hf
  refine J_iconst (pc' := 48) (v := 1) d_Md_clashesAhead_47 rfl ic_1 ?_
  refine J_goto (tgt := 52) d_Md_clashesAhead_48 (by decide) ?_
  exact j_Md_clashesAhead_52 hk4 _ _ _ _ hf
def f_Md_clashesAhead_51 (k4 : Sg → Int32 → Int32 → Int32 → Option (Int32 × Sg)) (σ : Sg) (v1 : Int32) (v3 : Int32) : Option (Int32 × Sg) :=
  f_Md_clashesAhead_52 k4 σ v1 v3 0
set_option maxHeartbeats 4000000 in
theorem j_Md_clashesAhead_51 {V : Vx} {X : Xx} {r : Int32} {σ' : Sg} {k4 : Sg → Int32 → Int32 → Int32 → Option (Int32 × Sg)} (hk4 : ∀ (σ : Sg) (v1 : Int32) (v2 : Int32) (v3 : Int32), k4 σ v1 v2 v3 = some (r, σ') → J V X (k2_rm 5 114) c_Md_clashesAhead R_Md 4 (some .boolean) (Qr V X (some (.int r)) σ') σ 4 [(0, rf V 66), (1, .int v1), (2, .int v2), (3, .int v3)] []) (σ : Sg) (v1 : Int32) (v3 : Int32) (hf : f_Md_clashesAhead_51 k4 σ v1 v3 = some (r, σ')) : J V X (k2_rm 5 114) c_Md_clashesAhead R_Md 4 (some .boolean) (Qr V X (some (.int r)) σ') σ 51 [(0, rf V 66), (1, .int v1), (3, .int v3)] [] := by
  unfold f_Md_clashesAhead_51 at hf
  refine J_iconst (pc' := 52) (v := 0) d_Md_clashesAhead_51 rfl ic_0 ?_
  exact j_Md_clashesAhead_52 hk4 _ _ _ _ hf
def f_Md_clashesAhead_4 : Nat → Sg → Int32 → Int32 → Int32 → Option (Int32 × Sg)
  | 0, _, _, _, _ => none
  | n + 1, σ, v1, v2, v3 =>
    if (σ.1 66 14) ≤ v3 then
      some (zb v2, σ)
    else
      if v2 = 0 then
        if v3 = v1 then
          f_Md_clashesAhead_51 (f_Md_clashesAhead_4 n) σ v1 v3
        else
          (f_Md_counts σ v3).bind fun r5 =>
            if r5 = 0 then
              f_Md_clashesAhead_51 (f_Md_clashesAhead_4 n) σ v1 v3
            else
              (f_Md_isAhead σ v3 v1).bind fun r8 =>
                if r8 = 0 then
                  f_Md_clashesAhead_51 (f_Md_clashesAhead_4 n) σ v1 v3
                else
                  bd (f_Md_doClash σ v3 v1) fun r12 σ11 =>
                    if r12 = 0 then f_Md_clashesAhead_51 (f_Md_clashesAhead_4 n) σ11 v1 v3 else f_Md_clashesAhead_47 (f_Md_clashesAhead_4 n) σ11 v1 v3
      else
        f_Md_clashesAhead_47 (f_Md_clashesAhead_4 n) σ v1 v3
theorem f_Md_clashesAhead_4_s (n : Nat) (σ : Sg) (v1 : Int32) (v2 : Int32) (v3 : Int32) : f_Md_clashesAhead_4 (n + 1) σ v1 v2 v3 =
    if (σ.1 66 14) ≤ v3 then
      some (zb v2, σ)
    else
      if v2 = 0 then
        if v3 = v1 then
          f_Md_clashesAhead_51 (f_Md_clashesAhead_4 n) σ v1 v3
        else
          (f_Md_counts σ v3).bind fun r5 =>
            if r5 = 0 then
              f_Md_clashesAhead_51 (f_Md_clashesAhead_4 n) σ v1 v3
            else
              (f_Md_isAhead σ v3 v1).bind fun r8 =>
                if r8 = 0 then
                  f_Md_clashesAhead_51 (f_Md_clashesAhead_4 n) σ v1 v3
                else
                  bd (f_Md_doClash σ v3 v1) fun r12 σ11 =>
                    if r12 = 0 then f_Md_clashesAhead_51 (f_Md_clashesAhead_4 n) σ11 v1 v3 else f_Md_clashesAhead_47 (f_Md_clashesAhead_4 n) σ11 v1 v3
      else
        f_Md_clashesAhead_47 (f_Md_clashesAhead_4 n) σ v1 v3 := rfl
set_option maxHeartbeats 4000000 in
theorem j_Md_clashesAhead_4 {V : Vx} {X : Xx} {r : Int32} {σ' : Sg}  : ∀ (n : Nat) (σ : Sg) (v1 : Int32) (v2 : Int32) (v3 : Int32), f_Md_clashesAhead_4 n σ v1 v2 v3 = some (r, σ') → J V X (k2_rm 5 114) c_Md_clashesAhead R_Md 4 (some .boolean) (Qr V X (some (.int r)) σ') σ 4 [(0, rf V 66), (1, .int v1), (2, .int v2), (3, .int v3)] [] := by
  intro n
  induction n with
  | zero => intro σ v1 v2 v3 hf; exact nn hf
  | succ n ih =>
    intro σ v1 v2 v3 hf
    rw [f_Md_clashesAhead_4_s] at hf
    refine J_iload_n (pc' := 5) d_Md_clashesAhead_4 rfl 3 rfl ?_
    refine J_aload_n (pc' := 6) d_Md_clashesAhead_5 rfl 0 rfl ?_
    refine J_getI (pc' := 9) d_Md_clashesAhead_6 rfl sh_66 fl_Md_209 rfl ?_
    refine J_icmp_ge (pc' := 12) (tgt := 59) d_Md_clashesAhead_9 rfl (by decide) (fun hc1 => ?_) (fun hc1 => ?_)
    · have hf := brT hc1 hf
      refine J_iload_n (pc' := 60) d_Md_clashesAhead_59 rfl 2 rfl ?_
      obtain ⟨rfl, rfl⟩ := resE hf
      exact J_zretG d_Md_clashesAhead_60
    · have hf := brF hc1 hf
      refine J_iload_n (pc' := 13) d_Md_clashesAhead_12 rfl 2 rfl ?_
      refine J_if_ne (pc' := 16) (tgt := 47) d_Md_clashesAhead_13 rfl (by decide) (fun hc2 => ?_) (fun hc2 => ?_)
      · have hf := brF hc2 hf
        refine J_pick [0, 1, 3] rfl ?_
        exact j_Md_clashesAhead_47 ih _ _ _ hf
      · have hf := brT hc2 hf
        refine J_iload_n (pc' := 17) d_Md_clashesAhead_16 rfl 3 rfl ?_
        refine J_iload_n (pc' := 18) d_Md_clashesAhead_17 rfl 1 rfl ?_
        refine J_icmp_eq (pc' := 21) (tgt := 51) d_Md_clashesAhead_18 rfl (by decide) (fun hc3 => ?_) (fun hc3 => ?_)
        · have hf := brT hc3 hf
          refine J_pick [0, 1, 3] rfl ?_
          exact j_Md_clashesAhead_51 ih _ _ _ hf
        · have hf := brF hc3 hf
          refine J_aload_n (pc' := 22) d_Md_clashesAhead_21 rfl 0 rfl ?_
          refine J_iload_n (pc' := 23) d_Md_clashesAhead_22 rfl 3 rfl ?_
          obtain ⟨r5, hq4, hf⟩ := bpE hf
          refine J_V (pc' := 26) (as := [.int v3]) (rest := []) (st' := [.int r5]) d_Md_clashesAhead_23 rfl sh_66 rfl mv_Md_219 (ct_Md_counts V _ σ v3 hq4) rfl rfl ⟨Nat.le_of_ble_eq_true rfl, Nat.le_of_ble_eq_true rfl⟩ ⟨rfl, rfl⟩ (Nat.le_of_ble_eq_true rfl) rfl ?_
          refine J_if_eq (pc' := 29) (tgt := 51) d_Md_clashesAhead_26 rfl (by decide) (fun hc6 => ?_) (fun hc6 => ?_)
          · have hf := brT hc6 hf
            refine J_pick [0, 1, 3] rfl ?_
            exact j_Md_clashesAhead_51 ih _ _ _ hf
          · have hf := brF hc6 hf
            refine J_aload_n (pc' := 30) d_Md_clashesAhead_29 rfl 0 rfl ?_
            refine J_iload_n (pc' := 31) d_Md_clashesAhead_30 rfl 3 rfl ?_
            refine J_iload_n (pc' := 32) d_Md_clashesAhead_31 rfl 1 rfl ?_
            obtain ⟨r8, hq7, hf⟩ := bpE hf
            refine J_V (pc' := 35) (as := [.int v3, .int v1]) (rest := []) (st' := [.int r8]) d_Md_clashesAhead_32 rfl sh_66 rfl mv_Md_237 (ct_Md_isAhead V _ σ v3 v1 hq7) rfl rfl ⟨Nat.le_of_ble_eq_true rfl, Nat.le_of_ble_eq_true rfl⟩ ⟨rfl, rfl⟩ (Nat.le_of_ble_eq_true rfl) rfl ?_
            refine J_if_eq (pc' := 38) (tgt := 51) d_Md_clashesAhead_35 rfl (by decide) (fun hc9 => ?_) (fun hc9 => ?_)
            · have hf := brT hc9 hf
              refine J_pick [0, 1, 3] rfl ?_
              exact j_Md_clashesAhead_51 ih _ _ _ hf
            · have hf := brF hc9 hf
              refine J_aload_n (pc' := 39) d_Md_clashesAhead_38 rfl 0 rfl ?_
              refine J_iload_n (pc' := 40) d_Md_clashesAhead_39 rfl 3 rfl ?_
              refine J_iload_n (pc' := 41) d_Md_clashesAhead_40 rfl 1 rfl ?_
              obtain ⟨r12, σ11, hq10, hf⟩ := bdE hf
              refine J_V (pc' := 44) (as := [.int v3, .int v1]) (rest := []) (st' := [.int r12]) d_Md_clashesAhead_41 rfl sh_66 rfl mv_Md_231 (ct_Md_doClash V _ σ v3 v1 hq10) rfl rfl ⟨Nat.le_of_ble_eq_true rfl, Nat.le_of_ble_eq_true rfl⟩ ⟨rfl, rfl⟩ (Nat.le_of_ble_eq_true rfl) rfl ?_
              refine J_if_eq (pc' := 47) (tgt := 51) d_Md_clashesAhead_44 rfl (by decide) (fun hc13 => ?_) (fun hc13 => ?_)
              · have hf := brT hc13 hf
                refine J_pick [0, 1, 3] rfl ?_
                exact j_Md_clashesAhead_51 ih _ _ _ hf
              · have hf := brF hc13 hf
                refine J_pick [0, 1, 3] rfl ?_
                exact j_Md_clashesAhead_47 ih _ _ _ hf
def f_Md_clashesAhead (σ : Sg) (v1 : Int32) : Option (Int32 × Sg) :=
  f_Md_clashesAhead_4 FU σ v1 0 0
set_option maxHeartbeats 4000000 in
theorem j_Md_clashesAhead {V : Vx} {X : Xx} {r : Int32} {σ' : Sg} (σ : Sg) (v1 : Int32) (hf : f_Md_clashesAhead σ v1 = some (r, σ')) : J V X (k2_rm 5 114) c_Md_clashesAhead R_Md 4 (some .boolean) (Qr V X (some (.int r)) σ') σ 0 [(0, rf V 66), (1, .int v1)] [] := by
  unfold f_Md_clashesAhead at hf
  refine J_iconst (pc' := 1) (v := 0) d_Md_clashesAhead_0 rfl ic_0 ?_
  refine J_istore_n (pc' := 2) (lv' := [(2, .int 0), (0, rf V 66), (1, .int v1)]) d_Md_clashesAhead_1 rfl rfl (by decide) rfl ?_
  refine J_iconst (pc' := 3) (v := 0) d_Md_clashesAhead_2 rfl ic_0 ?_
  refine J_istore_n (pc' := 4) (lv' := [(3, .int 0), (2, .int 0), (0, rf V 66), (1, .int v1)]) d_Md_clashesAhead_3 rfl rfl (by decide) rfl ?_
  refine J_pick [2, 3, 1, 0] rfl ?_
  exact j_Md_clashesAhead_4 FU _ _ _ _ hf
theorem ct_Md_clashesAhead (V : Vx) (l : Launch) (σ : Sg) (v1 : Int32) {r : Int32} {σ' : Sg} (hf : f_Md_clashesAhead σ v1 = some (r, σ')) : Ct V l y_Md_clashesAhead c_Md_clashesAhead 4 (some .boolean) (k2_rm 5 114) [rf V 66, .int v1] σ (some (.int r)) σ' := Ct.ofJ (by decide +kernel) (Nat.le_of_ble_eq_true rfl) fun X _ => j_Md_clashesAhead _ v1 hf
def f_Md_findPutOff_70 (k6 : Sg → Int32 → Option Sg) (k16 : Sg → Int32 → Int32 → Option Sg) (σ : Sg) (v1 : Int32) (v2 : Int32) : Option Sg :=
  k16 σ v1 (v2 + 1)
set_option maxHeartbeats 4000000 in
theorem j_Md_findPutOff_70 {V : Vx} {X : Xx} {σ' : Sg} {k6 : Sg → Int32 → Option Sg} {k16 : Sg → Int32 → Int32 → Option Sg} (hk6 : ∀ (σ : Sg) (v1 : Int32), k6 σ v1 = some σ' → J V X (k2_rm 6 137) c_Md_findPutOff R_Md 3 none (Qr V X none σ') σ 6 [(0, rf V 66), (1, .int v1)] []) (hk16 : ∀ (σ : Sg) (v1 : Int32) (v2 : Int32), k16 σ v1 v2 = some σ' → J V X (k2_rm 6 137) c_Md_findPutOff R_Md 3 none (Qr V X none σ') σ 16 [(0, rf V 66), (1, .int v1), (2, .int v2)] []) (σ : Sg) (v1 : Int32) (v2 : Int32) (hf : f_Md_findPutOff_70 k6 k16 σ v1 v2 = some σ') : J V X (k2_rm 6 137) c_Md_findPutOff R_Md 3 none (Qr V X none σ') σ 70 [(0, rf V 66), (1, .int v1), (2, .int v2)] [] := by
  unfold f_Md_findPutOff_70 at hf
  refine J_iinc (pc' := 73) (j := 2) (v := 1) (lv' := [(2, .int (v2 + 1)), (0, rf V 66), (1, .int v1)]) d_Md_findPutOff_70 rfl rfl ic_1 (by decide) rfl ?_
  refine J_goto (tgt := 16) d_Md_findPutOff_73 (by decide) ?_
  refine J_pick [1, 2, 0] rfl ?_
  exact hk16 _ _ _ hf
def f_Md_findPutOff_49 (k6 : Sg → Int32 → Option Sg) (k16 : Sg → Int32 → Int32 → Option Sg) : Nat → Sg → Int32 → Int32 → Option Sg
  | 0, _, _, _ => none
  | n + 1, σ, v1, v2 =>
    bd (f_Md_clashesAhead σ v2) fun r13 σ12 =>
      if r13 = 0 then
        f_Md_findPutOff_70 k6 k16 σ12 v1 v2
      else
        gd (vin v2 20) (
          gd (vin v2 20) (
            f_Md_findPutOff_49 k6 k16 n (pI σ12 77 v2.toNatClampNeg ((σ12.1 77 v2.toNatClampNeg) + 1)) v1 v2))
theorem f_Md_findPutOff_49_s (k6 : Sg → Int32 → Option Sg) (k16 : Sg → Int32 → Int32 → Option Sg) (n : Nat) (σ : Sg) (v1 : Int32) (v2 : Int32) : f_Md_findPutOff_49 k6 k16 (n + 1) σ v1 v2 =
    bd (f_Md_clashesAhead σ v2) fun r13 σ12 =>
      if r13 = 0 then
        f_Md_findPutOff_70 k6 k16 σ12 v1 v2
      else
        gd (vin v2 20) (
          gd (vin v2 20) (
            f_Md_findPutOff_49 k6 k16 n (pI σ12 77 v2.toNatClampNeg ((σ12.1 77 v2.toNatClampNeg) + 1)) v1 v2)) := rfl
set_option maxHeartbeats 4000000 in
theorem j_Md_findPutOff_49 {V : Vx} {X : Xx} {σ' : Sg} {k6 : Sg → Int32 → Option Sg} {k16 : Sg → Int32 → Int32 → Option Sg} (hk6 : ∀ (σ : Sg) (v1 : Int32), k6 σ v1 = some σ' → J V X (k2_rm 6 137) c_Md_findPutOff R_Md 3 none (Qr V X none σ') σ 6 [(0, rf V 66), (1, .int v1)] []) (hk16 : ∀ (σ : Sg) (v1 : Int32) (v2 : Int32), k16 σ v1 v2 = some σ' → J V X (k2_rm 6 137) c_Md_findPutOff R_Md 3 none (Qr V X none σ') σ 16 [(0, rf V 66), (1, .int v1), (2, .int v2)] []) : ∀ (n : Nat) (σ : Sg) (v1 : Int32) (v2 : Int32), f_Md_findPutOff_49 k6 k16 n σ v1 v2 = some σ' → J V X (k2_rm 6 137) c_Md_findPutOff R_Md 3 none (Qr V X none σ') σ 49 [(0, rf V 66), (1, .int v1), (2, .int v2)] [] := by
  intro n
  induction n with
  | zero => intro σ v1 v2 hf; exact nn hf
  | succ n ih =>
    intro σ v1 v2 hf
    rw [f_Md_findPutOff_49_s] at hf
    refine J_aload_n (pc' := 50) d_Md_findPutOff_49 rfl 0 rfl ?_
    refine J_iload_n (pc' := 51) d_Md_findPutOff_50 rfl 2 rfl ?_
    obtain ⟨r13, σ12, hq11, hf⟩ := bdE hf
    refine J_V (pc' := 54) (as := [.int v2]) (rest := []) (st' := [.int r13]) d_Md_findPutOff_51 rfl sh_66 rfl mv_Md_240 (ct_Md_clashesAhead V _ σ v2 hq11) rfl rfl ⟨Nat.le_of_ble_eq_true rfl, Nat.le_of_ble_eq_true rfl⟩ ⟨rfl, rfl⟩ (Nat.le_of_ble_eq_true rfl) rfl ?_
    refine J_if_eq (pc' := 57) (tgt := 70) d_Md_findPutOff_54 rfl (by decide) (fun hc14 => ?_) (fun hc14 => ?_)
    · have hf := brT hc14 hf
      exact j_Md_findPutOff_70 hk6 hk16 _ _ _ hf
    · have hf := brF hc14 hf
      refine J_aload_n (pc' := 58) d_Md_findPutOff_57 rfl 0 rfl ?_
      refine J_getR (pc' := 61) d_Md_findPutOff_58 rfl sh_66 fl_Md_40 rfl ?_
      refine J_iload_n (pc' := 62) d_Md_findPutOff_61 rfl 2 rfl ?_
      refine J_dup2 (pc' := 63) d_Md_findPutOff_62 rfl rfl rfl ?_
      obtain ⟨hg15, hf⟩ := gdE hf
      refine J_ial (pc' := 64) d_Md_findPutOff_63 rfl sh_77 (vinP hg15) ?_
      refine J_iconst (pc' := 65) (v := 1) d_Md_findPutOff_64 rfl ic_1 ?_
      refine J_iadd (pc' := 66) d_Md_findPutOff_65 rfl ?_
      obtain ⟨hg16, hf⟩ := gdE hf
      refine J_ias (pc' := 67) d_Md_findPutOff_66 rfl sh_77 (vinP hg16) ?_
      refine J_goto (tgt := 49) d_Md_findPutOff_67 (by decide) ?_
      exact ih _ _ _ hf
def f_Md_findPutOff_16 (k6 : Sg → Int32 → Option Sg) : Nat → Sg → Int32 → Int32 → Option Sg
  | 0, _, _, _ => none
  | n + 1, σ, v1, v2 =>
    if (σ.1 66 14) ≤ v2 then
      k6 σ (v1 + 1)
    else
      (f_Md_counts σ v2).bind fun r6 =>
        if r6 = 0 then
          f_Md_findPutOff_70 k6 (f_Md_findPutOff_16 k6 n) σ v1 v2
        else
          gd (vin (5 * v2) 100) (
            gd (vin (σ.1 76 (5 * v2).toNatClampNeg) 8) (
              if (σ.1 74 (σ.1 76 (5 * v2).toNatClampNeg).toNatClampNeg) = v1 then f_Md_findPutOff_49 k6 (f_Md_findPutOff_16 k6 n) FU σ v1 v2 else f_Md_findPutOff_70 k6 (f_Md_findPutOff_16 k6 n) σ v1 v2))
theorem f_Md_findPutOff_16_s (k6 : Sg → Int32 → Option Sg) (n : Nat) (σ : Sg) (v1 : Int32) (v2 : Int32) : f_Md_findPutOff_16 k6 (n + 1) σ v1 v2 =
    if (σ.1 66 14) ≤ v2 then
      k6 σ (v1 + 1)
    else
      (f_Md_counts σ v2).bind fun r6 =>
        if r6 = 0 then
          f_Md_findPutOff_70 k6 (f_Md_findPutOff_16 k6 n) σ v1 v2
        else
          gd (vin (5 * v2) 100) (
            gd (vin (σ.1 76 (5 * v2).toNatClampNeg) 8) (
              if (σ.1 74 (σ.1 76 (5 * v2).toNatClampNeg).toNatClampNeg) = v1 then f_Md_findPutOff_49 k6 (f_Md_findPutOff_16 k6 n) FU σ v1 v2 else f_Md_findPutOff_70 k6 (f_Md_findPutOff_16 k6 n) σ v1 v2)) := rfl
set_option maxHeartbeats 4000000 in
theorem j_Md_findPutOff_16 {V : Vx} {X : Xx} {σ' : Sg} {k6 : Sg → Int32 → Option Sg} (hk6 : ∀ (σ : Sg) (v1 : Int32), k6 σ v1 = some σ' → J V X (k2_rm 6 137) c_Md_findPutOff R_Md 3 none (Qr V X none σ') σ 6 [(0, rf V 66), (1, .int v1)] []) : ∀ (n : Nat) (σ : Sg) (v1 : Int32) (v2 : Int32), f_Md_findPutOff_16 k6 n σ v1 v2 = some σ' → J V X (k2_rm 6 137) c_Md_findPutOff R_Md 3 none (Qr V X none σ') σ 16 [(0, rf V 66), (1, .int v1), (2, .int v2)] [] := by
  intro n
  induction n with
  | zero => intro σ v1 v2 hf; exact nn hf
  | succ n ih =>
    intro σ v1 v2 hf
    rw [f_Md_findPutOff_16_s] at hf
    refine J_iload_n (pc' := 17) d_Md_findPutOff_16 rfl 2 rfl ?_
    refine J_aload_n (pc' := 18) d_Md_findPutOff_17 rfl 0 rfl ?_
    refine J_getI (pc' := 21) d_Md_findPutOff_18 rfl sh_66 fl_Md_209 rfl ?_
    refine J_icmp_ge (pc' := 24) (tgt := 76) d_Md_findPutOff_21 rfl (by decide) (fun hc4 => ?_) (fun hc4 => ?_)
    · have hf := brT hc4 hf
      refine J_iinc (pc' := 79) (j := 1) (v := 1) (lv' := [(1, .int (v1 + 1)), (0, rf V 66), (2, .int v2)]) d_Md_findPutOff_76 rfl rfl ic_1 (by decide) rfl ?_
      refine J_goto (tgt := 6) d_Md_findPutOff_79 (by decide) ?_
      refine J_pick [1, 0] rfl ?_
      exact hk6 _ _ hf
    · have hf := brF hc4 hf
      refine J_aload_n (pc' := 25) d_Md_findPutOff_24 rfl 0 rfl ?_
      refine J_iload_n (pc' := 26) d_Md_findPutOff_25 rfl 2 rfl ?_
      obtain ⟨r6, hq5, hf⟩ := bpE hf
      refine J_V (pc' := 29) (as := [.int v2]) (rest := []) (st' := [.int r6]) d_Md_findPutOff_26 rfl sh_66 rfl mv_Md_219 (ct_Md_counts V _ σ v2 hq5) rfl rfl ⟨Nat.le_of_ble_eq_true rfl, Nat.le_of_ble_eq_true rfl⟩ ⟨rfl, rfl⟩ (Nat.le_of_ble_eq_true rfl) rfl ?_
      refine J_if_eq (pc' := 32) (tgt := 70) d_Md_findPutOff_29 rfl (by decide) (fun hc7 => ?_) (fun hc7 => ?_)
      · have hf := brT hc7 hf
        exact j_Md_findPutOff_70 hk6 ih _ _ _ hf
      · have hf := brF hc7 hf
        refine J_aload_n (pc' := 33) d_Md_findPutOff_32 rfl 0 rfl ?_
        refine J_getR (pc' := 36) d_Md_findPutOff_33 rfl sh_66 fl_Md_31 rfl ?_
        refine J_aload_n (pc' := 37) d_Md_findPutOff_36 rfl 0 rfl ?_
        refine J_getR (pc' := 40) d_Md_findPutOff_37 rfl sh_66 fl_Md_37 rfl ?_
        refine J_iconst (pc' := 41) (v := 5) d_Md_findPutOff_40 rfl ic_5 ?_
        refine J_iload_n (pc' := 42) d_Md_findPutOff_41 rfl 2 rfl ?_
        refine J_imul (pc' := 43) d_Md_findPutOff_42 rfl ?_
        obtain ⟨hg8, hf⟩ := gdE hf
        refine J_ial (pc' := 44) d_Md_findPutOff_43 rfl sh_76 (vinP hg8) ?_
        obtain ⟨hg9, hf⟩ := gdE hf
        refine J_ial (pc' := 45) d_Md_findPutOff_44 rfl sh_74 (vinP hg9) ?_
        refine J_iload_n (pc' := 46) d_Md_findPutOff_45 rfl 1 rfl ?_
        refine J_icmp_ne (pc' := 49) (tgt := 70) d_Md_findPutOff_46 rfl (by decide) (fun hc10 => ?_) (fun hc10 => ?_)
        · have hf := brF hc10 hf
          exact j_Md_findPutOff_70 hk6 ih _ _ _ hf
        · have hf := brT hc10 hf
          exact j_Md_findPutOff_49 hk6 ih FU _ _ _ hf
def f_Md_findPutOff_6 : Nat → Sg → Int32 → Option Sg
  | 0, _, _ => none
  | n + 1, σ, v1 =>
    if (σ.1 66 8) ≤ v1 then some σ else f_Md_findPutOff_16 (f_Md_findPutOff_6 n) FU σ v1 0
theorem f_Md_findPutOff_6_s (n : Nat) (σ : Sg) (v1 : Int32) : f_Md_findPutOff_6 (n + 1) σ v1 =
    if (σ.1 66 8) ≤ v1 then some σ else f_Md_findPutOff_16 (f_Md_findPutOff_6 n) FU σ v1 0 := rfl
set_option maxHeartbeats 4000000 in
theorem j_Md_findPutOff_6 {V : Vx} {X : Xx} {σ' : Sg}  : ∀ (n : Nat) (σ : Sg) (v1 : Int32), f_Md_findPutOff_6 n σ v1 = some σ' → J V X (k2_rm 6 137) c_Md_findPutOff R_Md 3 none (Qr V X none σ') σ 6 [(0, rf V 66), (1, .int v1)] [] := by
  intro n
  induction n with
  | zero => intro σ v1 hf; exact nn hf
  | succ n ih =>
    intro σ v1 hf
    rw [f_Md_findPutOff_6_s] at hf
    refine J_iload_n (pc' := 7) d_Md_findPutOff_6 rfl 1 rfl ?_
    refine J_aload_n (pc' := 8) d_Md_findPutOff_7 rfl 0 rfl ?_
    refine J_getI (pc' := 11) d_Md_findPutOff_8 rfl sh_66 fl_Md_114 rfl ?_
    refine J_icmp_ge (pc' := 14) (tgt := 82) d_Md_findPutOff_11 rfl (by decide) (fun hc3 => ?_) (fun hc3 => ?_)
    · have hf := brT hc3 hf
      obtain rfl := Option.some.inj hf
      exact J_vret d_Md_findPutOff_82
    · have hf := brF hc3 hf
      refine J_iconst (pc' := 15) (v := 0) d_Md_findPutOff_14 rfl ic_0 ?_
      refine J_istore_n (pc' := 16) (lv' := [(2, .int 0), (0, rf V 66), (1, .int v1)]) d_Md_findPutOff_15 rfl rfl (by decide) rfl ?_
      refine J_pick [1, 2, 0] rfl ?_
      exact j_Md_findPutOff_16 ih FU _ _ _ hf
def f_Md_findPutOff (σ : Sg)  : Option Sg :=
  (f_Md_asTold σ).bind fun σ2 =>
    f_Md_findPutOff_6 FU σ2 0
set_option maxHeartbeats 4000000 in
theorem j_Md_findPutOff {V : Vx} {X : Xx} {σ' : Sg} (σ : Sg) (hf : f_Md_findPutOff σ = some σ') : J V X (k2_rm 6 137) c_Md_findPutOff R_Md 3 none (Qr V X none σ') σ 0 [(0, rf V 66)] [] := by
  unfold f_Md_findPutOff at hf
  refine J_aload_n (pc' := 1) d_Md_findPutOff_0 rfl 0 rfl ?_
  obtain ⟨σ2, hq1, hf⟩ := bpE hf
  refine J_V (pc' := 4) (as := []) (rest := []) (st' := []) d_Md_findPutOff_1 rfl sh_66 rfl mv_Md_228 (ct_Md_asTold V _ σ hq1) rfl rfl ⟨Nat.le_of_ble_eq_true rfl, Nat.le_of_ble_eq_true rfl⟩ ⟨rfl, rfl⟩ (Nat.le_of_ble_eq_true rfl) rfl ?_
  refine J_iconst (pc' := 5) (v := 0) d_Md_findPutOff_4 rfl ic_0 ?_
  refine J_istore_n (pc' := 6) (lv' := [(1, .int 0), (0, rf V 66)]) d_Md_findPutOff_5 rfl rfl (by decide) rfl ?_
  refine J_pick [1, 0] rfl ?_
  exact j_Md_findPutOff_6 FU _ _ hf
theorem ct_Md_findPutOff (V : Vx) (l : Launch) (σ : Sg) {σ' : Sg} (hf : f_Md_findPutOff σ = some σ') : Ct V l y_Md_findPutOff c_Md_findPutOff 3 none (k2_rm 6 137) [rf V 66] σ none σ' := Ct.ofJ (by decide +kernel) (Nat.le_of_ble_eq_true rfl) fun X _ => j_Md_findPutOff _  hf
