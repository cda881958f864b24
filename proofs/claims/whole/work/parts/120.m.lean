theorem d_Md_settledNow_0 : decode c_Md_settledNow 0 = .ok (.aload_n 0, 1) := by decide +kernel
theorem d_Md_settledNow_1 : decode c_Md_settledNow 1 = .ok (.invokevirtual 310, 3) := by decide +kernel
theorem d_Md_settledNow_4 : decode c_Md_settledNow 4 = .ok (.iconst 0, 1) := by decide +kernel
theorem d_Md_settledNow_5 : decode c_Md_settledNow 5 = .ok (.istore_n 1, 1) := by decide +kernel
theorem d_Md_settledNow_6 : decode c_Md_settledNow 6 = .ok (.iconst 0, 1) := by decide +kernel
theorem d_Md_settledNow_7 : decode c_Md_settledNow 7 = .ok (.istore_n 2, 1) := by decide +kernel
theorem d_Md_settledNow_8 : decode c_Md_settledNow 8 = .ok (.iconst 0, 1) := by decide +kernel
theorem d_Md_settledNow_9 : decode c_Md_settledNow 9 = .ok (.istore_n 3, 1) := by decide +kernel
theorem d_Md_settledNow_10 : decode c_Md_settledNow 10 = .ok (.iload_n 3, 1) := by decide +kernel
theorem d_Md_settledNow_11 : decode c_Md_settledNow 11 = .ok (.iconst 5, 1) := by decide +kernel
theorem d_Md_settledNow_12 : decode c_Md_settledNow 12 = .ok (.if_icmp .ge 45, 3) := by decide +kernel
theorem d_Md_settledNow_15 : decode c_Md_settledNow 15 = .ok (.iload_n 1, 1) := by decide +kernel
theorem d_Md_settledNow_16 : decode c_Md_settledNow 16 = .ok (.aload_n 0, 1) := by decide +kernel
theorem d_Md_settledNow_17 : decode c_Md_settledNow 17 = .ok (.getfield 58, 3) := by decide +kernel
theorem d_Md_settledNow_20 : decode c_Md_settledNow 20 = .ok (.iload_n 3, 1) := by decide +kernel
theorem d_Md_settledNow_21 : decode c_Md_settledNow 21 = .ok (.iaload, 1) := by decide +kernel
theorem d_Md_settledNow_22 : decode c_Md_settledNow 22 = .ok (.ifCond .eq 9, 3) := by decide +kernel
theorem d_Md_settledNow_25 : decode c_Md_settledNow 25 = .ok (.iconst 1, 1) := by decide +kernel
theorem d_Md_settledNow_26 : decode c_Md_settledNow 26 = .ok (.iload_n 3, 1) := by decide +kernel
theorem d_Md_settledNow_27 : decode c_Md_settledNow 27 = .ok (.ishl, 1) := by decide +kernel
theorem d_Md_settledNow_28 : decode c_Md_settledNow 28 = .ok (.goto 4, 3) := by decide +kernel
theorem d_Md_settledNow_31 : decode c_Md_settledNow 31 = .ok (.iconst 0, 1) := by decide +kernel
theorem d_Md_settledNow_32 : decode c_Md_settledNow 32 = .ok (.ior, 1) := by decide +kernel
theorem d_Md_settledNow_33 : decode c_Md_settledNow 33 = .ok (.istore_n 1, 1) := by decide +kernel
theorem d_Md_settledNow_34 : decode c_Md_settledNow 34 = .ok (.iload_n 2, 1) := by decide +kernel
theorem d_Md_settledNow_35 : decode c_Md_settledNow 35 = .ok (.aload_n 0, 1) := by decide +kernel
theorem d_Md_settledNow_36 : decode c_Md_settledNow 36 = .ok (.getfield 58, 3) := by decide +kernel
theorem d_Md_settledNow_39 : decode c_Md_settledNow 39 = .ok (.iload_n 3, 1) := by decide +kernel
theorem d_Md_settledNow_40 : decode c_Md_settledNow 40 = .ok (.iaload, 1) := by decide +kernel
theorem d_Md_settledNow_41 : decode c_Md_settledNow 41 = .ok (.ifCond .eq 7, 3) := by decide +kernel
theorem d_Md_settledNow_44 : decode c_Md_settledNow 44 = .ok (.iconst 1, 1) := by decide +kernel
theorem d_Md_settledNow_45 : decode c_Md_settledNow 45 = .ok (.goto 4, 3) := by decide +kernel
theorem d_Md_settledNow_48 : decode c_Md_settledNow 48 = .ok (.iconst 0, 1) := by decide +kernel
theorem d_Md_settledNow_49 : decode c_Md_settledNow 49 = .ok (.iadd, 1) := by decide +kernel
theorem d_Md_settledNow_50 : decode c_Md_settledNow 50 = .ok (.istore_n 2, 1) := by decide +kernel
theorem d_Md_settledNow_51 : decode c_Md_settledNow 51 = .ok (.iinc 3 1, 3) := by decide +kernel
theorem d_Md_settledNow_54 : decode c_Md_settledNow 54 = .ok (.goto (-44), 3) := by decide +kernel
theorem d_Md_settledNow_57 : decode c_Md_settledNow 57 = .ok (.iconst 0, 1) := by decide +kernel
theorem d_Md_settledNow_58 : decode c_Md_settledNow 58 = .ok (.istore_n 3, 1) := by decide +kernel
theorem d_Md_settledNow_59 : decode c_Md_settledNow 59 = .ok (.iload_n 3, 1) := by decide +kernel
theorem d_Md_settledNow_60 : decode c_Md_settledNow 60 = .ok (.bipush 32, 2) := by decide +kernel
theorem d_Md_settledNow_62 : decode c_Md_settledNow 62 = .ok (.if_icmp .ge 137, 3) := by decide +kernel
theorem d_Md_settledNow_65 : decode c_Md_settledNow 65 = .ok (.aload_n 0, 1) := by decide +kernel
theorem d_Md_settledNow_66 : decode c_Md_settledNow 66 = .ok (.getfield 61, 3) := by decide +kernel
theorem d_Md_settledNow_69 : decode c_Md_settledNow 69 = .ok (.iload_n 3, 1) := by decide +kernel
theorem d_Md_settledNow_70 : decode c_Md_settledNow 70 = .ok (.iload_n 3, 1) := by decide +kernel
theorem d_Md_settledNow_71 : decode c_Md_settledNow 71 = .ok (.ifCond .ne 7, 3) := by decide +kernel
theorem d_Md_settledNow_74 : decode c_Md_settledNow 74 = .ok (.iconst 0, 1) := by decide +kernel
theorem d_Md_settledNow_75 : decode c_Md_settledNow 75 = .ok (.goto 4, 3) := by decide +kernel
theorem d_Md_settledNow_78 : decode c_Md_settledNow 78 = .ok (.iconst (-1), 1) := by decide +kernel
theorem d_Md_settledNow_79 : decode c_Md_settledNow 79 = .ok (.iastore, 1) := by decide +kernel
theorem d_Md_settledNow_80 : decode c_Md_settledNow 80 = .ok (.iload_n 3, 1) := by decide +kernel
theorem d_Md_settledNow_81 : decode c_Md_settledNow 81 = .ok (.istore 4, 2) := by decide +kernel
theorem d_Md_settledNow_83 : decode c_Md_settledNow 83 = .ok (.iload 4, 2) := by decide +kernel
theorem d_Md_settledNow_85 : decode c_Md_settledNow 85 = .ok (.ifCond .le 108, 3) := by decide +kernel
theorem d_Md_settledNow_88 : decode c_Md_settledNow 88 = .ok (.iload_n 3, 1) := by decide +kernel
theorem d_Md_settledNow_89 : decode c_Md_settledNow 89 = .ok (.iload_n 1, 1) := by decide +kernel
theorem d_Md_settledNow_90 : decode c_Md_settledNow 90 = .ok (.iconst (-1), 1) := by decide +kernel
theorem d_Md_settledNow_91 : decode c_Md_settledNow 91 = .ok (.ixor, 1) := by decide +kernel
theorem d_Md_settledNow_92 : decode c_Md_settledNow 92 = .ok (.iand, 1) := by decide +kernel
theorem d_Md_settledNow_93 : decode c_Md_settledNow 93 = .ok (.ifCond .ne 31, 3) := by decide +kernel
theorem d_Md_settledNow_96 : decode c_Md_settledNow 96 = .ok (.aload_n 0, 1) := by decide +kernel
theorem d_Md_settledNow_97 : decode c_Md_settledNow 97 = .ok (.iload 4, 2) := by decide +kernel
theorem d_Md_settledNow_99 : decode c_Md_settledNow 99 = .ok (.invokevirtual 316, 3) := by decide +kernel
theorem d_Md_settledNow_102 : decode c_Md_settledNow 102 = .ok (.ifCond .ne 22, 3) := by decide +kernel
theorem d_Md_settledNow_105 : decode c_Md_settledNow 105 = .ok (.aload_n 0, 1) := by decide +kernel
theorem d_Md_settledNow_106 : decode c_Md_settledNow 106 = .ok (.getfield 61, 3) := by decide +kernel
theorem d_Md_settledNow_109 : decode c_Md_settledNow 109 = .ok (.iload_n 3, 1) := by decide +kernel
theorem d_Md_settledNow_110 : decode c_Md_settledNow 110 = .ok (.iload 4, 2) := by decide +kernel
theorem d_Md_settledNow_112 : decode c_Md_settledNow 112 = .ok (.iconst (-1), 1) := by decide +kernel
theorem d_Md_settledNow_113 : decode c_Md_settledNow 113 = .ok (.ixor, 1) := by decide +kernel
theorem d_Md_settledNow_114 : decode c_Md_settledNow 114 = .ok (.iand, 1) := by decide +kernel
theorem d_Md_settledNow_115 : decode c_Md_settledNow 115 = .ok (.iaload, 1) := by decide +kernel
theorem d_Md_settledNow_116 : decode c_Md_settledNow 116 = .ok (.iconst (-1), 1) := by decide +kernel
theorem d_Md_settledNow_117 : decode c_Md_settledNow 117 = .ok (.if_icmp .eq 7, 3) := by decide +kernel
theorem d_Md_settledNow_120 : decode c_Md_settledNow 120 = .ok (.iconst 1, 1) := by decide +kernel
theorem d_Md_settledNow_121 : decode c_Md_settledNow 121 = .ok (.goto 4, 3) := by decide +kernel
theorem d_Md_settledNow_124 : decode c_Md_settledNow 124 = .ok (.iconst 0, 1) := by decide +kernel
theorem d_Md_settledNow_125 : decode c_Md_settledNow 125 = .ok (.istore 5, 2) := by decide +kernel
theorem d_Md_settledNow_127 : decode c_Md_settledNow 127 = .ok (.aload_n 0, 1) := by decide +kernel
theorem d_Md_settledNow_128 : decode c_Md_settledNow 128 = .ok (.getfield 61, 3) := by decide +kernel
theorem d_Md_settledNow_131 : decode c_Md_settledNow 131 = .ok (.iload_n 3, 1) := by decide +kernel
theorem d_Md_settledNow_132 : decode c_Md_settledNow 132 = .ok (.iload 5, 2) := by decide +kernel
theorem d_Md_settledNow_134 : decode c_Md_settledNow 134 = .ok (.ifCond .eq 41, 3) := by decide +kernel
theorem d_Md_settledNow_137 : decode c_Md_settledNow 137 = .ok (.aload_n 0, 1) := by decide +kernel
theorem d_Md_settledNow_138 : decode c_Md_settledNow 138 = .ok (.getfield 61, 3) := by decide +kernel
theorem d_Md_settledNow_141 : decode c_Md_settledNow 141 = .ok (.iload_n 3, 1) := by decide +kernel
theorem d_Md_settledNow_142 : decode c_Md_settledNow 142 = .ok (.iload 4, 2) := by decide +kernel
theorem d_Md_settledNow_144 : decode c_Md_settledNow 144 = .ok (.iconst (-1), 1) := by decide +kernel
theorem d_Md_settledNow_145 : decode c_Md_settledNow 145 = .ok (.ixor, 1) := by decide +kernel
theorem d_Md_settledNow_146 : decode c_Md_settledNow 146 = .ok (.iand, 1) := by decide +kernel
theorem d_Md_settledNow_147 : decode c_Md_settledNow 147 = .ok (.iaload, 1) := by decide +kernel
theorem d_Md_settledNow_148 : decode c_Md_settledNow 148 = .ok (.iconst 1, 1) := by decide +kernel
theorem d_Md_settledNow_149 : decode c_Md_settledNow 149 = .ok (.iadd, 1) := by decide +kernel
theorem d_Md_settledNow_150 : decode c_Md_settledNow 150 = .ok (.aload_n 0, 1) := by decide +kernel
theorem d_Md_settledNow_151 : decode c_Md_settledNow 151 = .ok (.getfield 61, 3) := by decide +kernel
theorem d_Md_settledNow_154 : decode c_Md_settledNow 154 = .ok (.iload_n 3, 1) := by decide +kernel
theorem d_Md_settledNow_155 : decode c_Md_settledNow 155 = .ok (.iaload, 1) := by decide +kernel
theorem d_Md_settledNow_156 : decode c_Md_settledNow 156 = .ok (.if_icmp .le 19, 3) := by decide +kernel
theorem d_Md_settledNow_159 : decode c_Md_settledNow 159 = .ok (.aload_n 0, 1) := by decide +kernel
theorem d_Md_settledNow_160 : decode c_Md_settledNow 160 = .ok (.getfield 61, 3) := by decide +kernel
theorem d_Md_settledNow_163 : decode c_Md_settledNow 163 = .ok (.iload_n 3, 1) := by decide +kernel
theorem d_Md_settledNow_164 : decode c_Md_settledNow 164 = .ok (.iload 4, 2) := by decide +kernel
theorem d_Md_settledNow_166 : decode c_Md_settledNow 166 = .ok (.iconst (-1), 1) := by decide +kernel
theorem d_Md_settledNow_167 : decode c_Md_settledNow 167 = .ok (.ixor, 1) := by decide +kernel
theorem d_Md_settledNow_168 : decode c_Md_settledNow 168 = .ok (.iand, 1) := by decide +kernel
theorem d_Md_settledNow_169 : decode c_Md_settledNow 169 = .ok (.iaload, 1) := by decide +kernel
theorem d_Md_settledNow_170 : decode c_Md_settledNow 170 = .ok (.iconst 1, 1) := by decide +kernel
theorem d_Md_settledNow_171 : decode c_Md_settledNow 171 = .ok (.iadd, 1) := by decide +kernel
theorem d_Md_settledNow_172 : decode c_Md_settledNow 172 = .ok (.goto 9, 3) := by decide +kernel
theorem d_Md_settledNow_175 : decode c_Md_settledNow 175 = .ok (.aload_n 0, 1) := by decide +kernel
theorem d_Md_settledNow_176 : decode c_Md_settledNow 176 = .ok (.getfield 61, 3) := by decide +kernel
theorem d_Md_settledNow_179 : decode c_Md_settledNow 179 = .ok (.iload_n 3, 1) := by decide +kernel
theorem d_Md_settledNow_180 : decode c_Md_settledNow 180 = .ok (.iaload, 1) := by decide +kernel
theorem d_Md_settledNow_181 : decode c_Md_settledNow 181 = .ok (.iastore, 1) := by decide +kernel
theorem d_Md_settledNow_182 : decode c_Md_settledNow 182 = .ok (.iload 4, 2) := by decide +kernel
theorem d_Md_settledNow_184 : decode c_Md_settledNow 184 = .ok (.iconst 1, 1) := by decide +kernel
theorem d_Md_settledNow_185 : decode c_Md_settledNow 185 = .ok (.isub, 1) := by decide +kernel
theorem d_Md_settledNow_186 : decode c_Md_settledNow 186 = .ok (.iload_n 3, 1) := by decide +kernel
theorem d_Md_settledNow_187 : decode c_Md_settledNow 187 = .ok (.iand, 1) := by decide +kernel
theorem d_Md_settledNow_188 : decode c_Md_settledNow 188 = .ok (.istore 4, 2) := by decide +kernel
theorem d_Md_settledNow_190 : decode c_Md_settledNow 190 = .ok (.goto (-107), 3) := by decide +kernel
theorem d_Md_settledNow_193 : decode c_Md_settledNow 193 = .ok (.iinc 3 1, 3) := by decide +kernel
theorem d_Md_settledNow_196 : decode c_Md_settledNow 196 = .ok (.goto (-137), 3) := by decide +kernel
theorem d_Md_settledNow_199 : decode c_Md_settledNow 199 = .ok (.iload_n 2, 1) := by decide +kernel
theorem d_Md_settledNow_200 : decode c_Md_settledNow 200 = .ok (.aload_n 0, 1) := by decide +kernel
theorem d_Md_settledNow_201 : decode c_Md_settledNow 201 = .ok (.getfield 61, 3) := by decide +kernel
theorem d_Md_settledNow_204 : decode c_Md_settledNow 204 = .ok (.iload_n 1, 1) := by decide +kernel
theorem d_Md_settledNow_205 : decode c_Md_settledNow 205 = .ok (.iaload, 1) := by decide +kernel
theorem d_Md_settledNow_206 : decode c_Md_settledNow 206 = .ok (.isub, 1) := by decide +kernel
theorem d_Md_settledNow_207 : decode c_Md_settledNow 207 = .ok (.ireturn, 1) := by decide +kernel
theorem d_Md_settled_0 : decode c_Md_settled 0 = .ok (.aload_n 0, 1) := by decide +kernel
theorem d_Md_settled_1 : decode c_Md_settled 1 = .ok (.invokevirtual 319, 3) := by decide +kernel
theorem d_Md_settled_4 : decode c_Md_settled 4 = .ok (.ireturn, 1) := by decide +kernel
theorem d_Md_knots_0 : decode c_Md_knots 0 = .ok (.aload_n 0, 1) := by decide +kernel
theorem d_Md_knots_1 : decode c_Md_knots 1 = .ok (.iload_n 1, 1) := by decide +kernel
theorem d_Md_knots_2 : decode c_Md_knots 2 = .ok (.invokevirtual 143, 3) := by decide +kernel
theorem d_Md_knots_5 : decode c_Md_knots 5 = .ok (.ifCond .eq 22, 3) := by decide +kernel
theorem d_Md_knots_8 : decode c_Md_knots 8 = .ok (.iload_n 2, 1) := by decide +kernel
theorem d_Md_knots_9 : decode c_Md_knots 9 = .ok (.invokestatic 189, 3) := by decide +kernel
theorem d_Md_knots_12 : decode c_Md_knots 12 = .ok (.ifCond .eq 15, 3) := by decide +kernel
theorem d_Md_knots_15 : decode c_Md_knots 15 = .ok (.iload_n 3, 1) := by decide +kernel
theorem d_Md_knots_16 : decode c_Md_knots 16 = .ok (.i2l, 1) := by decide +kernel
theorem d_Md_knots_17 : decode c_Md_knots 17 = .ok (.lconst 0, 1) := by decide +kernel
theorem d_Md_knots_18 : decode c_Md_knots 18 = .ok (.ldc2_w 198, 3) := by decide +kernel
theorem d_Md_knots_21 : decode c_Md_knots 21 = .ok (.invokestatic 73, 3) := by decide +kernel
theorem d_Md_knots_24 : decode c_Md_knots 24 = .ok (.ifCond .ne 9, 3) := by decide +kernel
theorem d_Md_knots_27 : decode c_Md_knots 27 = .ok (.bipush (-2), 2) := by decide +kernel
theorem d_Md_knots_29 : decode c_Md_knots 29 = .ok (.invokestatic 170, 3) := by decide +kernel
theorem d_Md_knots_32 : decode c_Md_knots 32 = .ok (.lreturn, 1) := by decide +kernel
theorem d_Md_knots_33 : decode c_Md_knots 33 = .ok (.iconst 0, 1) := by decide +kernel
theorem d_Md_knots_34 : decode c_Md_knots 34 = .ok (.istore 4, 2) := by decide +kernel
theorem d_Md_knots_36 : decode c_Md_knots 36 = .ok (.iload 4, 2) := by decide +kernel
theorem d_Md_knots_38 : decode c_Md_knots 38 = .ok (.bipush 100, 2) := by decide +kernel
theorem d_Md_knots_40 : decode c_Md_knots 40 = .ok (.if_icmp .ge 26, 3) := by decide +kernel
theorem d_Md_knots_43 : decode c_Md_knots 43 = .ok (.aload_n 0, 1) := by decide +kernel
theorem d_Md_knots_44 : decode c_Md_knots 44 = .ok (.getfield 64, 3) := by decide +kernel
theorem d_Md_knots_47 : decode c_Md_knots 47 = .ok (.iload 4, 2) := by decide +kernel
theorem d_Md_knots_49 : decode c_Md_knots 49 = .ok (.iload 4, 2) := by decide +kernel
theorem d_Md_knots_51 : decode c_Md_knots 51 = .ok (.ifCond .ne 7, 3) := by decide +kernel
theorem d_Md_knots_54 : decode c_Md_knots 54 = .ok (.lconst 1, 1) := by decide +kernel
theorem d_Md_knots_55 : decode c_Md_knots 55 = .ok (.goto 4, 3) := by decide +kernel
theorem d_Md_knots_58 : decode c_Md_knots 58 = .ok (.lconst 0, 1) := by decide +kernel
theorem d_Md_knots_59 : decode c_Md_knots 59 = .ok (.lastore, 1) := by decide +kernel
theorem d_Md_knots_60 : decode c_Md_knots 60 = .ok (.iinc 4 1, 3) := by decide +kernel
theorem d_Md_knots_63 : decode c_Md_knots 63 = .ok (.goto (-27), 3) := by decide +kernel
theorem d_Md_knots_66 : decode c_Md_knots 66 = .ok (.iconst 0, 1) := by decide +kernel
theorem d_Md_knots_67 : decode c_Md_knots 67 = .ok (.istore 4, 2) := by decide +kernel
theorem d_Md_knots_69 : decode c_Md_knots 69 = .ok (.iload 4, 2) := by decide +kernel
theorem d_Md_knots_71 : decode c_Md_knots 71 = .ok (.iload_n 2, 1) := by decide +kernel
theorem d_Md_knots_72 : decode c_Md_knots 72 = .ok (.if_icmp .ge 117, 3) := by decide +kernel
theorem d_Md_knots_75 : decode c_Md_knots 75 = .ok (.iconst 0, 1) := by decide +kernel
theorem d_Md_knots_76 : decode c_Md_knots 76 = .ok (.istore 5, 2) := by decide +kernel
theorem d_Md_knots_78 : decode c_Md_knots 78 = .ok (.iload 5, 2) := by decide +kernel
theorem d_Md_knots_80 : decode c_Md_knots 80 = .ok (.bipush 100, 2) := by decide +kernel
theorem d_Md_knots_82 : decode c_Md_knots 82 = .ok (.if_icmp .ge 71, 3) := by decide +kernel
theorem d_Md_knots_85 : decode c_Md_knots 85 = .ok (.aload_n 0, 1) := by decide +kernel
theorem d_Md_knots_86 : decode c_Md_knots 86 = .ok (.getfield 68, 3) := by decide +kernel
theorem d_Md_knots_89 : decode c_Md_knots 89 = .ok (.iload 5, 2) := by decide +kernel
theorem d_Md_knots_91 : decode c_Md_knots 91 = .ok (.lconst 0, 1) := by decide +kernel
theorem d_Md_knots_92 : decode c_Md_knots 92 = .ok (.lastore, 1) := by decide +kernel
theorem d_Md_knots_93 : decode c_Md_knots 93 = .ok (.iconst 0, 1) := by decide +kernel
theorem d_Md_knots_94 : decode c_Md_knots 94 = .ok (.istore 6, 2) := by decide +kernel
theorem d_Md_knots_96 : decode c_Md_knots 96 = .ok (.iload 6, 2) := by decide +kernel
theorem d_Md_knots_98 : decode c_Md_knots 98 = .ok (.aload_n 0, 1) := by decide +kernel
theorem d_Md_knots_99 : decode c_Md_knots 99 = .ok (.getfield 28, 3) := by decide +kernel
theorem d_Md_knots_102 : decode c_Md_knots 102 = .ok (.bipush 6, 2) := by decide +kernel
theorem d_Md_knots_104 : decode c_Md_knots 104 = .ok (.iload_n 1, 1) := by decide +kernel
theorem d_Md_knots_105 : decode c_Md_knots 105 = .ok (.imul, 1) := by decide +kernel
theorem d_Md_knots_106 : decode c_Md_knots 106 = .ok (.iconst 3, 1) := by decide +kernel
theorem d_Md_knots_107 : decode c_Md_knots 107 = .ok (.iadd, 1) := by decide +kernel
theorem d_Md_knots_108 : decode c_Md_knots 108 = .ok (.iaload, 1) := by decide +kernel
theorem d_Md_knots_109 : decode c_Md_knots 109 = .ok (.if_icmp .gt 38, 3) := by decide +kernel
theorem d_Md_knots_112 : decode c_Md_knots 112 = .ok (.iload 6, 2) := by decide +kernel
theorem d_Md_knots_114 : decode c_Md_knots 114 = .ok (.iload 5, 2) := by decide +kernel
theorem d_Md_knots_116 : decode c_Md_knots 116 = .ok (.if_icmp .ge 31, 3) := by decide +kernel
theorem d_Md_knots_119 : decode c_Md_knots 119 = .ok (.aload_n 0, 1) := by decide +kernel
theorem d_Md_knots_120 : decode c_Md_knots 120 = .ok (.getfield 68, 3) := by decide +kernel
theorem d_Md_knots_123 : decode c_Md_knots 123 = .ok (.iload 5, 2) := by decide +kernel
theorem d_Md_knots_125 : decode c_Md_knots 125 = .ok (.dup2, 1) := by decide +kernel
theorem d_Md_knots_126 : decode c_Md_knots 126 = .ok (.laload, 1) := by decide +kernel
theorem d_Md_knots_127 : decode c_Md_knots 127 = .ok (.aload_n 0, 1) := by decide +kernel
theorem d_Md_knots_128 : decode c_Md_knots 128 = .ok (.getfield 64, 3) := by decide +kernel
theorem d_Md_knots_131 : decode c_Md_knots 131 = .ok (.iload 5, 2) := by decide +kernel
theorem d_Md_knots_133 : decode c_Md_knots 133 = .ok (.iload 6, 2) := by decide +kernel
theorem d_Md_knots_135 : decode c_Md_knots 135 = .ok (.isub, 1) := by decide +kernel
theorem d_Md_knots_136 : decode c_Md_knots 136 = .ok (.iconst 1, 1) := by decide +kernel
theorem d_Md_knots_137 : decode c_Md_knots 137 = .ok (.isub, 1) := by decide +kernel
theorem d_Md_knots_138 : decode c_Md_knots 138 = .ok (.laload, 1) := by decide +kernel
theorem d_Md_knots_139 : decode c_Md_knots 139 = .ok (.ladd, 1) := by decide +kernel
theorem d_Md_knots_140 : decode c_Md_knots 140 = .ok (.lastore, 1) := by decide +kernel
theorem d_Md_knots_141 : decode c_Md_knots 141 = .ok (.iinc 6 1, 3) := by decide +kernel
theorem d_Md_knots_144 : decode c_Md_knots 144 = .ok (.goto (-48), 3) := by decide +kernel
theorem d_Md_knots_147 : decode c_Md_knots 147 = .ok (.iinc 5 1, 3) := by decide +kernel
theorem d_Md_knots_150 : decode c_Md_knots 150 = .ok (.goto (-72), 3) := by decide +kernel
theorem d_Md_knots_153 : decode c_Md_knots 153 = .ok (.iconst 0, 1) := by decide +kernel
theorem d_Md_knots_154 : decode c_Md_knots 154 = .ok (.istore 5, 2) := by decide +kernel
theorem d_Md_knots_156 : decode c_Md_knots 156 = .ok (.iload 5, 2) := by decide +kernel
theorem d_Md_knots_158 : decode c_Md_knots 158 = .ok (.bipush 100, 2) := by decide +kernel
theorem d_Md_knots_160 : decode c_Md_knots 160 = .ok (.if_icmp .ge 23, 3) := by decide +kernel
theorem d_Md_knots_163 : decode c_Md_knots 163 = .ok (.aload_n 0, 1) := by decide +kernel
theorem d_Md_knots_164 : decode c_Md_knots 164 = .ok (.getfield 64, 3) := by decide +kernel
theorem d_Md_knots_167 : decode c_Md_knots 167 = .ok (.iload 5, 2) := by decide +kernel
theorem d_Md_knots_169 : decode c_Md_knots 169 = .ok (.aload_n 0, 1) := by decide +kernel
theorem d_Md_knots_170 : decode c_Md_knots 170 = .ok (.getfield 68, 3) := by decide +kernel
theorem d_Md_knots_173 : decode c_Md_knots 173 = .ok (.iload 5, 2) := by decide +kernel
theorem d_Md_knots_175 : decode c_Md_knots 175 = .ok (.laload, 1) := by decide +kernel
theorem d_Md_knots_176 : decode c_Md_knots 176 = .ok (.lastore, 1) := by decide +kernel
theorem d_Md_knots_177 : decode c_Md_knots 177 = .ok (.iinc 5 1, 3) := by decide +kernel
theorem d_Md_knots_180 : decode c_Md_knots 180 = .ok (.goto (-24), 3) := by decide +kernel
theorem d_Md_knots_183 : decode c_Md_knots 183 = .ok (.iinc 4 1, 3) := by decide +kernel
theorem d_Md_knots_186 : decode c_Md_knots 186 = .ok (.goto (-117), 3) := by decide +kernel
theorem d_Md_knots_189 : decode c_Md_knots 189 = .ok (.aload_n 0, 1) := by decide +kernel
theorem d_Md_knots_190 : decode c_Md_knots 190 = .ok (.getfield 64, 3) := by decide +kernel
theorem d_Md_knots_193 : decode c_Md_knots 193 = .ok (.iload_n 3, 1) := by decide +kernel
theorem d_Md_knots_194 : decode c_Md_knots 194 = .ok (.laload, 1) := by decide +kernel
theorem d_Md_knots_195 : decode c_Md_knots 195 = .ok (.lreturn, 1) := by decide +kernel
theorem d_Md_write_0 : decode c_Md_write 0 = .ok (.iload_n 1, 1) := by decide +kernel
theorem d_Md_write_1 : decode c_Md_write 1 = .ok (.invokestatic 87, 3) := by decide +kernel
theorem d_Md_write_4 : decode c_Md_write 4 = .ok (.ifCond .ne 6, 3) := by decide +kernel
theorem d_Md_write_7 : decode c_Md_write 7 = .ok (.bipush (-2), 2) := by decide +kernel
theorem d_Md_write_9 : decode c_Md_write 9 = .ok (.ireturn, 1) := by decide +kernel
theorem d_Md_write_10 : decode c_Md_write 10 = .ok (.aload_n 0, 1) := by decide +kernel
theorem d_Md_write_11 : decode c_Md_write 11 = .ok (.getfield 7, 3) := by decide +kernel
theorem d_Md_write_14 : decode c_Md_write 14 = .ok (.iload_n 1, 1) := by decide +kernel
theorem d_Md_write_15 : decode c_Md_write 15 = .ok (.iaload, 1) := by decide +kernel
theorem d_Md_write_16 : decode c_Md_write 16 = .ok (.ifCond .ge 9, 3) := by decide +kernel
theorem d_Md_write_19 : decode c_Md_write 19 = .ok (.aload_n 0, 1) := by decide +kernel
theorem d_Md_write_20 : decode c_Md_write 20 = .ok (.iconst 1, 1) := by decide +kernel
theorem d_Md_write_21 : decode c_Md_write 21 = .ok (.invokevirtual 93, 3) := by decide +kernel
theorem d_Md_write_24 : decode c_Md_write 24 = .ok (.ireturn, 1) := by decide +kernel
theorem d_Md_write_25 : decode c_Md_write 25 = .ok (.aload_n 0, 1) := by decide +kernel
theorem d_Md_write_26 : decode c_Md_write 26 = .ok (.invokevirtual 243, 3) := by decide +kernel
theorem d_Md_write_29 : decode c_Md_write 29 = .ok (.aload_n 0, 1) := by decide +kernel
theorem d_Md_write_30 : decode c_Md_write 30 = .ok (.getfield 13, 3) := by decide +kernel
theorem d_Md_write_33 : decode c_Md_write 33 = .ok (.iload_n 1, 1) := by decide +kernel
theorem d_Md_write_34 : decode c_Md_write 34 = .ok (.iaload, 1) := by decide +kernel
theorem d_Md_write_35 : decode c_Md_write 35 = .ok (.aload_n 0, 1) := by decide +kernel
theorem d_Md_write_36 : decode c_Md_write 36 = .ok (.getfield 209, 3) := by decide +kernel
theorem d_Md_write_39 : decode c_Md_write 39 = .ok (.if_icmp .ge 12, 3) := by decide +kernel
theorem d_Md_write_42 : decode c_Md_write 42 = .ok (.aload_n 0, 1) := by decide +kernel
theorem d_Md_write_43 : decode c_Md_write 43 = .ok (.getfield 13, 3) := by decide +kernel
theorem d_Md_write_46 : decode c_Md_write 46 = .ok (.iload_n 1, 1) := by decide +kernel
theorem d_Md_write_47 : decode c_Md_write 47 = .ok (.iaload, 1) := by decide +kernel
theorem d_Md_write_48 : decode c_Md_write 48 = .ok (.goto 7, 3) := by decide +kernel
theorem d_Md_write_51 : decode c_Md_write 51 = .ok (.aload_n 0, 1) := by decide +kernel
theorem d_Md_write_52 : decode c_Md_write 52 = .ok (.getfield 209, 3) := by decide +kernel
theorem d_Md_write_55 : decode c_Md_write 55 = .ok (.istore_n 2, 1) := by decide +kernel
theorem d_Md_write_56 : decode c_Md_write 56 = .ok (.iconst 0, 1) := by decide +kernel
theorem d_Md_write_57 : decode c_Md_write 57 = .ok (.istore_n 3, 1) := by decide +kernel
theorem d_Md_write_58 : decode c_Md_write 58 = .ok (.iload_n 3, 1) := by decide +kernel
theorem d_Md_write_59 : decode c_Md_write 59 = .ok (.iload_n 2, 1) := by decide +kernel
theorem d_Md_write_60 : decode c_Md_write 60 = .ok (.if_icmp .ge 47, 3) := by decide +kernel
theorem d_Md_write_63 : decode c_Md_write 63 = .ok (.aload_n 0, 1) := by decide +kernel
theorem d_Md_write_64 : decode c_Md_write 64 = .ok (.getfield 16, 3) := by decide +kernel
theorem d_Md_write_67 : decode c_Md_write 67 = .ok (.bipush 60, 2) := by decide +kernel
theorem d_Md_write_69 : decode c_Md_write 69 = .ok (.iload_n 1, 1) := by decide +kernel
theorem d_Md_write_70 : decode c_Md_write 70 = .ok (.imul, 1) := by decide +kernel
theorem d_Md_write_71 : decode c_Md_write 71 = .ok (.iload_n 3, 1) := by decide +kernel
theorem d_Md_write_72 : decode c_Md_write 72 = .ok (.iadd, 1) := by decide +kernel
theorem d_Md_write_73 : decode c_Md_write 73 = .ok (.aload_n 0, 1) := by decide +kernel
theorem d_Md_write_74 : decode c_Md_write 74 = .ok (.getfield 7, 3) := by decide +kernel
theorem d_Md_write_77 : decode c_Md_write 77 = .ok (.iload_n 1, 1) := by decide +kernel
theorem d_Md_write_78 : decode c_Md_write 78 = .ok (.iaload, 1) := by decide +kernel
theorem d_Md_write_79 : decode c_Md_write 79 = .ok (.aload_n 0, 1) := by decide +kernel
theorem d_Md_write_80 : decode c_Md_write 80 = .ok (.iload_n 3, 1) := by decide +kernel
theorem d_Md_write_81 : decode c_Md_write 81 = .ok (.invokevirtual 219, 3) := by decide +kernel
theorem d_Md_write_84 : decode c_Md_write 84 = .ok (.ifCond .eq 12, 3) := by decide +kernel
theorem d_Md_write_87 : decode c_Md_write 87 = .ok (.aload_n 0, 1) := by decide +kernel
theorem d_Md_write_88 : decode c_Md_write 88 = .ok (.getfield 40, 3) := by decide +kernel
theorem d_Md_write_91 : decode c_Md_write 91 = .ok (.iload_n 3, 1) := by decide +kernel
theorem d_Md_write_92 : decode c_Md_write 92 = .ok (.iaload, 1) := by decide +kernel
theorem d_Md_write_93 : decode c_Md_write 93 = .ok (.goto 4, 3) := by decide +kernel
theorem d_Md_write_96 : decode c_Md_write 96 = .ok (.iconst (-1), 1) := by decide +kernel
theorem d_Md_write_97 : decode c_Md_write 97 = .ok (.invokestatic 101, 3) := by decide +kernel
theorem d_Md_write_100 : decode c_Md_write 100 = .ok (.iastore, 1) := by decide +kernel
theorem d_Md_write_101 : decode c_Md_write 101 = .ok (.iinc 3 1, 3) := by decide +kernel
theorem d_Md_write_104 : decode c_Md_write 104 = .ok (.goto (-46), 3) := by decide +kernel
theorem d_Md_write_107 : decode c_Md_write 107 = .ok (.iload_n 2, 1) := by decide +kernel
theorem d_Md_write_108 : decode c_Md_write 108 = .ok (.ireturn, 1) := by decide +kernel
def f_Md_settledNow_181 (k59 : Sg → Int32 → Int32 → Int32 → Option (Int32 × Sg)) (k83 : Sg → Int32 → Int32 → Int32 → Int32 → Option (Int32 × Sg)) (σ : Sg) (v1 : Int32) (v2 : Int32) (v3 : Int32) (v4 : Int32) (s0 : Int32) (s1 : Int32) : Option (Int32 × Sg) :=
  gd (vin s1 32) (
    k83 (pI σ 84 s1.toNatClampNeg s0) v1 v2 v3 ((v4 - 1) &&& v3))
set_option maxHeartbeats 4000000 in
theorem j_Md_settledNow_181 {V : Vx} {X : Xx} {r : Int32} {σ' : Sg} {k59 : Sg → Int32 → Int32 → Int32 → Option (Int32 × Sg)} {k83 : Sg → Int32 → Int32 → Int32 → Int32 → Option (Int32 × Sg)} (hk59 : ∀ (σ : Sg) (v1 : Int32) (v2 : Int32) (v3 : Int32), k59 σ v1 v2 v3 = some (r, σ') → J V X (k2_rm 5 114) c_Md_settledNow R_Md 6 (some .int) (Qr V X (some (.int r)) σ') σ 59 [(0, rf V 66), (1, .int v1), (2, .int v2), (3, .int v3)] []) (hk83 : ∀ (σ : Sg) (v1 : Int32) (v2 : Int32) (v3 : Int32) (v4 : Int32), k83 σ v1 v2 v3 v4 = some (r, σ') → J V X (k2_rm 5 114) c_Md_settledNow R_Md 6 (some .int) (Qr V X (some (.int r)) σ') σ 83 [(0, rf V 66), (1, .int v1), (2, .int v2), (3, .int v3), (4, .int v4)] []) (σ : Sg) (v1 : Int32) (v2 : Int32) (v3 : Int32) (v4 : Int32) (s0 : Int32) (s1 : Int32) (hf : f_Md_settledNow_181 k59 k83 σ v1 v2 v3 v4 s0 s1 = some (r, σ')) : J V X (k2_rm 5 114) c_Md_settledNow R_Md 6 (some .int) (Qr V X (some (.int r)) σ') σ 181 [(0, rf V 66), (1, .int v1), (2, .int v2), (3, .int v3), (4, .int v4)] [.int s0, .int s1, rf V 84] := by
  unfold f_Md_settledNow_181 at hf
  obtain ⟨hg12, hf⟩ := gdE hf
  refine J_ias (pc' := 182) d_Md_settledNow_181 rfl sh_84 (vinP hg12) ?_
  refine J_iload (pc' := 184) d_Md_settledNow_182 rfl 4 rfl ?_
  refine J_iconst (pc' := 185) (v := 1) d_Md_settledNow_184 rfl ic_1 ?_
  refine J_isub (pc' := 186) d_Md_settledNow_185 rfl ?_
  refine J_iload_n (pc' := 187) d_Md_settledNow_186 rfl 3 rfl ?_
  refine J_iand (pc' := 188) d_Md_settledNow_187 rfl ?_
  refine J_istore (pc' := 190) (lv' := [(4, .int ((v4 - 1) &&& v3)), (0, rf V 66), (1, .int v1), (2, .int v2), (3, .int v3)]) d_Md_settledNow_188 rfl (by decide) rfl ?_
  refine J_goto (tgt := 83) d_Md_settledNow_190 (by decide) ?_
  refine J_pick [1, 2, 3, 4, 0] rfl ?_
  exact hk83 _ _ _ _ _ hf
def f_Md_settledNow_175 (k59 : Sg → Int32 → Int32 → Int32 → Option (Int32 × Sg)) (k83 : Sg → Int32 → Int32 → Int32 → Int32 → Option (Int32 × Sg)) (σ : Sg) (v1 : Int32) (v2 : Int32) (v3 : Int32) (v4 : Int32) (s0 : Int32) : Option (Int32 × Sg) :=
  gd (vin v3 32) (
    f_Md_settledNow_181 k59 k83 σ v1 v2 v3 v4 (σ.1 84 v3.toNatClampNeg) s0)
set_option maxHeartbeats 4000000 in
theorem j_Md_settledNow_175 {V : Vx} {X : Xx} {r : Int32} {σ' : Sg} {k59 : Sg → Int32 → Int32 → Int32 → Option (Int32 × Sg)} {k83 : Sg → Int32 → Int32 → Int32 → Int32 → Option (Int32 × Sg)} (hk59 : ∀ (σ : Sg) (v1 : Int32) (v2 : Int32) (v3 : Int32), k59 σ v1 v2 v3 = some (r, σ') → J V X (k2_rm 5 114) c_Md_settledNow R_Md 6 (some .int) (Qr V X (some (.int r)) σ') σ 59 [(0, rf V 66), (1, .int v1), (2, .int v2), (3, .int v3)] []) (hk83 : ∀ (σ : Sg) (v1 : Int32) (v2 : Int32) (v3 : Int32) (v4 : Int32), k83 σ v1 v2 v3 v4 = some (r, σ') → J V X (k2_rm 5 114) c_Md_settledNow R_Md 6 (some .int) (Qr V X (some (.int r)) σ') σ 83 [(0, rf V 66), (1, .int v1), (2, .int v2), (3, .int v3), (4, .int v4)] []) (σ : Sg) (v1 : Int32) (v2 : Int32) (v3 : Int32) (v4 : Int32) (s0 : Int32) (hf : f_Md_settledNow_175 k59 k83 σ v1 v2 v3 v4 s0 = some (r, σ')) : J V X (k2_rm 5 114) c_Md_settledNow R_Md 6 (some .int) (Qr V X (some (.int r)) σ') σ 175 [(0, rf V 66), (1, .int v1), (2, .int v2), (3, .int v3), (4, .int v4)] [.int s0, rf V 84] := by
  unfold f_Md_settledNow_175 at hf
  refine J_aload_n (pc' := 176) d_Md_settledNow_175 rfl 0 rfl ?_
  refine J_getR (pc' := 179) d_Md_settledNow_176 rfl sh_66 fl_Md_61 rfl ?_
  refine J_iload_n (pc' := 180) d_Md_settledNow_179 rfl 3 rfl ?_
  obtain ⟨hg11, hf⟩ := gdE hf
  refine J_ial (pc' := 181) d_Md_settledNow_180 rfl sh_84 (vinP hg11) ?_
  exact j_Md_settledNow_181 hk59 hk83 _ _ _ _ _ _ _ hf
def f_Md_settledNow_125 (k59 : Sg → Int32 → Int32 → Int32 → Option (Int32 × Sg)) (k83 : Sg → Int32 → Int32 → Int32 → Int32 → Option (Int32 × Sg)) (σ : Sg) (v1 : Int32) (v2 : Int32) (v3 : Int32) (v4 : Int32) (s0 : Int32) : Option (Int32 × Sg) :=
  if s0 = 0 then
    f_Md_settledNow_175 k59 k83 σ v1 v2 v3 v4 v3
  else
    gd (vin (v3 &&& (v4 ^^^ (-1))) 32) (
      gd (vin v3 32) (
        if ((σ.1 84 (v3 &&& (v4 ^^^ (-1))).toNatClampNeg) + 1) ≤ (σ.1 84 v3.toNatClampNeg) then
          f_Md_settledNow_175 k59 k83 σ v1 v2 v3 v4 v3
        else
          gd (vin (v3 &&& (v4 ^^^ (-1))) 32) (
            f_Md_settledNow_181 k59 k83 σ v1 v2 v3 v4 ((σ.1 84 (v3 &&& (v4 ^^^ (-1))).toNatClampNeg) + 1) v3)))
set_option maxHeartbeats 4000000 in
theorem j_Md_settledNow_125 {V : Vx} {X : Xx} {r : Int32} {σ' : Sg} {k59 : Sg → Int32 → Int32 → Int32 → Option (Int32 × Sg)} {k83 : Sg → Int32 → Int32 → Int32 → Int32 → Option (Int32 × Sg)} (hk59 : ∀ (σ : Sg) (v1 : Int32) (v2 : Int32) (v3 : Int32), k59 σ v1 v2 v3 = some (r, σ') → J V X (k2_rm 5 114) c_Md_settledNow R_Md 6 (some .int) (Qr V X (some (.int r)) σ') σ 59 [(0, rf V 66), (1, .int v1), (2, .int v2), (3, .int v3)] []) (hk83 : ∀ (σ : Sg) (v1 : Int32) (v2 : Int32) (v3 : Int32) (v4 : Int32), k83 σ v1 v2 v3 v4 = some (r, σ') → J V X (k2_rm 5 114) c_Md_settledNow R_Md 6 (some .int) (Qr V X (some (.int r)) σ') σ 83 [(0, rf V 66), (1, .int v1), (2, .int v2), (3, .int v3), (4, .int v4)] []) (σ : Sg) (v1 : Int32) (v2 : Int32) (v3 : Int32) (v4 : Int32) (s0 : Int32) (hf : f_Md_settledNow_125 k59 k83 σ v1 v2 v3 v4 s0 = some (r, σ')) : J V X (k2_rm 5 114) c_Md_settledNow R_Md 6 (some .int) (Qr V X (some (.int r)) σ') σ 125 [(0, rf V 66), (1, .int v1), (2, .int v2), (3, .int v3), (4, .int v4)] [.int s0] := by
  unfold f_Md_settledNow_125 at hf
  refine J_istore (pc' := 127) (lv' := [(5, .int s0), (0, rf V 66), (1, .int v1), (2, .int v2), (3, .int v3), (4, .int v4)]) d_Md_settledNow_125 rfl (by decide) rfl ?_
  refine J_aload_n (pc' := 128) d_Md_settledNow_127 rfl 1 rfl ?_
  refine J_getR (pc' := 131) d_Md_settledNow_128 rfl sh_66 fl_Md_61 rfl ?_
  refine J_iload_n (pc' := 132) d_Md_settledNow_131 rfl 4 rfl ?_
  refine J_iload (pc' := 134) d_Md_settledNow_132 rfl 0 rfl ?_
  refine J_if_eq (pc' := 137) (tgt := 175) d_Md_settledNow_134 rfl (by decide) (fun hc10 => ?_) (fun hc10 => ?_)
  · have hf := brT hc10 hf
    refine J_pick [1, 2, 3, 4, 5] rfl ?_
    exact j_Md_settledNow_175 hk59 hk83 _ _ _ _ _ _ hf
  · have hf := brF hc10 hf
    refine J_aload_n (pc' := 138) d_Md_settledNow_137 rfl 1 rfl ?_
    refine J_getR (pc' := 141) d_Md_settledNow_138 rfl sh_66 fl_Md_61 rfl ?_
    refine J_iload_n (pc' := 142) d_Md_settledNow_141 rfl 4 rfl ?_
    refine J_iload (pc' := 144) d_Md_settledNow_142 rfl 5 rfl ?_
    refine J_iconst (pc' := 145) (v := (-1)) d_Md_settledNow_144 rfl ic_m1 ?_
    refine J_ixor (pc' := 146) d_Md_settledNow_145 rfl ?_
    refine J_iand (pc' := 147) d_Md_settledNow_146 rfl ?_
    obtain ⟨hg13, hf⟩ := gdE hf
    refine J_ial (pc' := 148) d_Md_settledNow_147 rfl sh_84 (vinP hg13) ?_
    refine J_iconst (pc' := 149) (v := 1) d_Md_settledNow_148 rfl ic_1 ?_
    refine J_iadd (pc' := 150) d_Md_settledNow_149 rfl ?_
    refine J_aload_n (pc' := 151) d_Md_settledNow_150 rfl 1 rfl ?_
    refine J_getR (pc' := 154) d_Md_settledNow_151 rfl sh_66 fl_Md_61 rfl ?_
    refine J_iload_n (pc' := 155) d_Md_settledNow_154 rfl 4 rfl ?_
    obtain ⟨hg14, hf⟩ := gdE hf
    refine J_ial (pc' := 156) d_Md_settledNow_155 rfl sh_84 (vinP hg14) ?_
    refine J_icmp_le (pc' := 159) (tgt := 175) d_Md_settledNow_156 rfl (by decide) (fun hc15 => ?_) (fun hc15 => ?_)
    · have hf := brT hc15 hf
      refine J_pick [1, 2, 3, 4, 5] rfl ?_
      exact j_Md_settledNow_175 hk59 hk83 _ _ _ _ _ _ hf
    · have hf := brF hc15 hf
      refine J_aload_n (pc' := 160) d_Md_settledNow_159 rfl 1 rfl ?_
      refine J_getR (pc' := 163) d_Md_settledNow_160 rfl sh_66 fl_Md_61 rfl ?_
      refine J_iload_n (pc' := 164) d_Md_settledNow_163 rfl 4 rfl ?_
      refine J_iload (pc' := 166) d_Md_settledNow_164 rfl 5 rfl ?_
      refine J_iconst (pc' := 167) (v := (-1)) d_Md_settledNow_166 rfl ic_m1 ?_
      refine J_ixor (pc' := 168) d_Md_settledNow_167 rfl ?_
      refine J_iand (pc' := 169) d_Md_settledNow_168 rfl ?_
      obtain ⟨hg16, hf⟩ := gdE hf
      refine J_ial (pc' := 170) d_Md_settledNow_169 rfl sh_84 (vinP hg16) ?_
      refine J_iconst (pc' := 171) (v := 1) d_Md_settledNow_170 rfl ic_1 ?_
      refine J_iadd (pc' := 172) d_Md_settledNow_171 rfl ?_
      refine J_goto (tgt := 181) d_Md_settledNow_172 (by decide) ?_
      refine J_pick [1, 2, 3, 4, 5] rfl ?_
      exact j_Md_settledNow_181 hk59 hk83 _ _ _ _ _ _ _ hf
def f_Md_settledNow_124 (k59 : Sg → Int32 → Int32 → Int32 → Option (Int32 × Sg)) (k83 : Sg → Int32 → Int32 → Int32 → Int32 → Option (Int32 × Sg)) (σ : Sg) (v1 : Int32) (v2 : Int32) (v3 : Int32) (v4 : Int32) : Option (Int32 × Sg) :=
  f_Md_settledNow_125 k59 k83 σ v1 v2 v3 v4 0
set_option maxHeartbeats 4000000 in
theorem j_Md_settledNow_124 {V : Vx} {X : Xx} {r : Int32} {σ' : Sg} {k59 : Sg → Int32 → Int32 → Int32 → Option (Int32 × Sg)} {k83 : Sg → Int32 → Int32 → Int32 → Int32 → Option (Int32 × Sg)} (hk59 : ∀ (σ : Sg) (v1 : Int32) (v2 : Int32) (v3 : Int32), k59 σ v1 v2 v3 = some (r, σ') → J V X (k2_rm 5 114) c_Md_settledNow R_Md 6 (some .int) (Qr V X (some (.int r)) σ') σ 59 [(0, rf V 66), (1, .int v1), (2, .int v2), (3, .int v3)] []) (hk83 : ∀ (σ : Sg) (v1 : Int32) (v2 : Int32) (v3 : Int32) (v4 : Int32), k83 σ v1 v2 v3 v4 = some (r, σ') → J V X (k2_rm 5 114) c_Md_settledNow R_Md 6 (some .int) (Qr V X (some (.int r)) σ') σ 83 [(0, rf V 66), (1, .int v1), (2, .int v2), (3, .int v3), (4, .int v4)] []) (σ : Sg) (v1 : Int32) (v2 : Int32) (v3 : Int32) (v4 : Int32) (hf : f_Md_settledNow_124 k59 k83 σ v1 v2 v3 v4 = some (r, σ')) : J V X (k2_rm 5 114) c_Md_settledNow R_Md 6 (some .int) (Qr V X (some (.int r)) σ') σ 124 [(0, rf V 66), (1, .int v1), (2, .int v2), (3, .int v3), (4, .int v4)] [] := by
  unfold f_Md_settledNow_124 at hf
  refine J_iconst (pc' := 125) (v := 0) d_Md_settledNow_124 rfl ic_0 ?_
  exact j_Md_settledNow_125 hk59 hk83 _ _ _ _ _ _ hf
def f_Md_settledNow_83 (k59 : Sg → Int32 → Int32 → Int32 → Option (Int32 × Sg)) : Nat → Sg → Int32 → Int32 → Int32 → Int32 → Option (Int32 × Sg)
  | 0, _, _, _, _, _ => none
  | n + 1, σ, v1, v2, v3, v4 =>
    if v4 ≤ 0 then
      k59 σ v1 v2 (v3 + 1)
    else
      if (v3 &&& (v1 ^^^ (-1))) = 0 then
        (f_Md_sumOf σ v4).bind fun r18 =>
          if r18 = 0 then
            gd (vin (v3 &&& (v4 ^^^ (-1))) 32) (
              if (σ.1 84 (v3 &&& (v4 ^^^ (-1))).toNatClampNeg) = (-1) then
                f_Md_settledNow_124 k59 (f_Md_settledNow_83 k59 n) σ v1 v2 v3 v4
              else
                f_Md_settledNow_125 k59 (f_Md_settledNow_83 k59 n) σ v1 v2 v3 v4 1)
          else
            f_Md_settledNow_124 k59 (f_Md_settledNow_83 k59 n) σ v1 v2 v3 v4
      else
        f_Md_settledNow_124 k59 (f_Md_settledNow_83 k59 n) σ v1 v2 v3 v4
theorem f_Md_settledNow_83_s (k59 : Sg → Int32 → Int32 → Int32 → Option (Int32 × Sg)) (n : Nat) (σ : Sg) (v1 : Int32) (v2 : Int32) (v3 : Int32) (v4 : Int32) : f_Md_settledNow_83 k59 (n + 1) σ v1 v2 v3 v4 =
    if v4 ≤ 0 then
      k59 σ v1 v2 (v3 + 1)
    else
      if (v3 &&& (v1 ^^^ (-1))) = 0 then
        (f_Md_sumOf σ v4).bind fun r18 =>
          if r18 = 0 then
            gd (vin (v3 &&& (v4 ^^^ (-1))) 32) (
              if (σ.1 84 (v3 &&& (v4 ^^^ (-1))).toNatClampNeg) = (-1) then
                f_Md_settledNow_124 k59 (f_Md_settledNow_83 k59 n) σ v1 v2 v3 v4
              else
                f_Md_settledNow_125 k59 (f_Md_settledNow_83 k59 n) σ v1 v2 v3 v4 1)
          else
            f_Md_settledNow_124 k59 (f_Md_settledNow_83 k59 n) σ v1 v2 v3 v4
      else
        f_Md_settledNow_124 k59 (f_Md_settledNow_83 k59 n) σ v1 v2 v3 v4 := rfl
set_option maxHeartbeats 4000000 in
theorem j_Md_settledNow_83 {V : Vx} {X : Xx} {r : Int32} {σ' : Sg} {k59 : Sg → Int32 → Int32 → Int32 → Option (Int32 × Sg)} (hk59 : ∀ (σ : Sg) (v1 : Int32) (v2 : Int32) (v3 : Int32), k59 σ v1 v2 v3 = some (r, σ') → J V X (k2_rm 5 114) c_Md_settledNow R_Md 6 (some .int) (Qr V X (some (.int r)) σ') σ 59 [(0, rf V 66), (1, .int v1), (2, .int v2), (3, .int v3)] []) : ∀ (n : Nat) (σ : Sg) (v1 : Int32) (v2 : Int32) (v3 : Int32) (v4 : Int32), f_Md_settledNow_83 k59 n σ v1 v2 v3 v4 = some (r, σ') → J V X (k2_rm 5 114) c_Md_settledNow R_Md 6 (some .int) (Qr V X (some (.int r)) σ') σ 83 [(0, rf V 66), (1, .int v1), (2, .int v2), (3, .int v3), (4, .int v4)] [] := by
  intro n
  induction n with
  | zero => intro σ v1 v2 v3 v4 hf; exact nn hf
  | succ n ih =>
    intro σ v1 v2 v3 v4 hf
    rw [f_Md_settledNow_83_s] at hf
    refine J_iload (pc' := 85) d_Md_settledNow_83 rfl 4 rfl ?_
    refine J_if_le (pc' := 88) (tgt := 193) d_Md_settledNow_85 rfl (by decide) (fun hc8 => ?_) (fun hc8 => ?_)
    · have hf := brT hc8 hf
      refine J_iinc (pc' := 196) (j := 3) (v := 1) (lv' := [(3, .int (v3 + 1)), (0, rf V 66), (1, .int v1), (2, .int v2), (4, .int v4)]) d_Md_settledNow_193 rfl rfl ic_1 (by decide) rfl ?_
      refine J_goto (tgt := 59) d_Md_settledNow_196 (by decide) ?_
      refine J_pick [1, 2, 3, 0] rfl ?_
      exact hk59 _ _ _ _ hf
    · have hf := brF hc8 hf
      refine J_iload_n (pc' := 89) d_Md_settledNow_88 rfl 3 rfl ?_
      refine J_iload_n (pc' := 90) d_Md_settledNow_89 rfl 1 rfl ?_
      refine J_iconst (pc' := 91) (v := (-1)) d_Md_settledNow_90 rfl ic_m1 ?_
      refine J_ixor (pc' := 92) d_Md_settledNow_91 rfl ?_
      refine J_iand (pc' := 93) d_Md_settledNow_92 rfl ?_
      refine J_if_ne (pc' := 96) (tgt := 124) d_Md_settledNow_93 rfl (by decide) (fun hc9 => ?_) (fun hc9 => ?_)
      · have hf := brF hc9 hf
        exact j_Md_settledNow_124 hk59 ih _ _ _ _ _ hf
      · have hf := brT hc9 hf
        refine J_aload_n (pc' := 97) d_Md_settledNow_96 rfl 0 rfl ?_
        refine J_iload (pc' := 99) d_Md_settledNow_97 rfl 4 rfl ?_
        obtain ⟨r18, hq17, hf⟩ := bpE hf
        refine J_V (pc' := 102) (as := [.int v4]) (rest := []) (st' := [.int r18]) d_Md_settledNow_99 rfl sh_66 rfl mv_Md_316 (ct_Md_sumOf V _ σ v4 hq17) rfl rfl ⟨Nat.le_of_ble_eq_true rfl, Nat.le_of_ble_eq_true rfl⟩ ⟨rfl, rfl⟩ (Nat.le_of_ble_eq_true rfl) rfl ?_
        refine J_if_ne (pc' := 105) (tgt := 124) d_Md_settledNow_102 rfl (by decide) (fun hc19 => ?_) (fun hc19 => ?_)
        · have hf := brF hc19 hf
          exact j_Md_settledNow_124 hk59 ih _ _ _ _ _ hf
        · have hf := brT hc19 hf
          refine J_aload_n (pc' := 106) d_Md_settledNow_105 rfl 0 rfl ?_
          refine J_getR (pc' := 109) d_Md_settledNow_106 rfl sh_66 fl_Md_61 rfl ?_
          refine J_iload_n (pc' := 110) d_Md_settledNow_109 rfl 3 rfl ?_
          refine J_iload (pc' := 112) d_Md_settledNow_110 rfl 4 rfl ?_
          refine J_iconst (pc' := 113) (v := (-1)) d_Md_settledNow_112 rfl ic_m1 ?_
          refine J_ixor (pc' := 114) d_Md_settledNow_113 rfl ?_
          refine J_iand (pc' := 115) d_Md_settledNow_114 rfl ?_
          obtain ⟨hg20, hf⟩ := gdE hf
          refine J_ial (pc' := 116) d_Md_settledNow_115 rfl sh_84 (vinP hg20) ?_
          refine J_iconst (pc' := 117) (v := (-1)) d_Md_settledNow_116 rfl ic_m1 ?_
          refine J_icmp_eq (pc' := 120) (tgt := 124) d_Md_settledNow_117 rfl (by decide) (fun hc21 => ?_) (fun hc21 => ?_)
          · have hf := brT hc21 hf
            exact j_Md_settledNow_124 hk59 ih _ _ _ _ _ hf
          · have hf := brF hc21 hf
            refine J_iconst (pc' := 121) (v := 1) d_Md_settledNow_120 rfl ic_1 ?_
            refine J_goto (tgt := 125) d_Md_settledNow_121 (by decide) ?_
            exact j_Md_settledNow_125 hk59 ih _ _ _ _ _ _ hf
def f_Md_settledNow_79 (k59 : Sg → Int32 → Int32 → Int32 → Option (Int32 × Sg)) (σ : Sg) (v1 : Int32) (v2 : Int32) (v3 : Int32) (s0 : Int32) (s1 : Int32) : Option (Int32 × Sg) :=
  gd (vin s1 32) (
    f_Md_settledNow_83 k59 FU (pI σ 84 s1.toNatClampNeg s0) v1 v2 v3 v3)
set_option maxHeartbeats 4000000 in
theorem j_Md_settledNow_79 {V : Vx} {X : Xx} {r : Int32} {σ' : Sg} {k59 : Sg → Int32 → Int32 → Int32 → Option (Int32 × Sg)} (hk59 : ∀ (σ : Sg) (v1 : Int32) (v2 : Int32) (v3 : Int32), k59 σ v1 v2 v3 = some (r, σ') → J V X (k2_rm 5 114) c_Md_settledNow R_Md 6 (some .int) (Qr V X (some (.int r)) σ') σ 59 [(0, rf V 66), (1, .int v1), (2, .int v2), (3, .int v3)] []) (σ : Sg) (v1 : Int32) (v2 : Int32) (v3 : Int32) (s0 : Int32) (s1 : Int32) (hf : f_Md_settledNow_79 k59 σ v1 v2 v3 s0 s1 = some (r, σ')) : J V X (k2_rm 5 114) c_Md_settledNow R_Md 6 (some .int) (Qr V X (some (.int r)) σ') σ 79 [(0, rf V 66), (1, .int v1), (2, .int v2), (3, .int v3)] [.int s0, .int s1, rf V 84] := by
  unfold f_Md_settledNow_79 at hf
  obtain ⟨hg7, hf⟩ := gdE hf
  refine J_ias (pc' := 80) d_Md_settledNow_79 rfl sh_84 (vinP hg7) ?_
  refine J_iload_n (pc' := 81) d_Md_settledNow_80 rfl 3 rfl ?_
  refine J_istore (pc' := 83) (lv' := [(4, .int v3), (0, rf V 66), (1, .int v1), (2, .int v2), (3, .int v3)]) d_Md_settledNow_81 rfl (by decide) rfl ?_
  refine J_pick [1, 2, 3, 4, 0] rfl ?_
  exact j_Md_settledNow_83 hk59 FU _ _ _ _ _ hf
def f_Md_settledNow_59 : Nat → Sg → Int32 → Int32 → Int32 → Option (Int32 × Sg)
  | 0, _, _, _, _ => none
  | n + 1, σ, v1, v2, v3 =>
    if 32 ≤ v3 then
      gd (vin v1 32) (
        some (v2 - (σ.1 84 v1.toNatClampNeg), σ))
    else
      if v3 = 0 then f_Md_settledNow_79 (f_Md_settledNow_59 n) σ v1 v2 v3 0 v3 else f_Md_settledNow_79 (f_Md_settledNow_59 n) σ v1 v2 v3 (-1) v3
theorem f_Md_settledNow_59_s (n : Nat) (σ : Sg) (v1 : Int32) (v2 : Int32) (v3 : Int32) : f_Md_settledNow_59 (n + 1) σ v1 v2 v3 =
    if 32 ≤ v3 then
      gd (vin v1 32) (
        some (v2 - (σ.1 84 v1.toNatClampNeg), σ))
    else
      if v3 = 0 then f_Md_settledNow_79 (f_Md_settledNow_59 n) σ v1 v2 v3 0 v3 else f_Md_settledNow_79 (f_Md_settledNow_59 n) σ v1 v2 v3 (-1) v3 := rfl
set_option maxHeartbeats 4000000 in
theorem j_Md_settledNow_59 {V : Vx} {X : Xx} {r : Int32} {σ' : Sg}  : ∀ (n : Nat) (σ : Sg) (v1 : Int32) (v2 : Int32) (v3 : Int32), f_Md_settledNow_59 n σ v1 v2 v3 = some (r, σ') → J V X (k2_rm 5 114) c_Md_settledNow R_Md 6 (some .int) (Qr V X (some (.int r)) σ') σ 59 [(0, rf V 66), (1, .int v1), (2, .int v2), (3, .int v3)] [] := by
  intro n
  induction n with
  | zero => intro σ v1 v2 v3 hf; exact nn hf
  | succ n ih =>
    intro σ v1 v2 v3 hf
    rw [f_Md_settledNow_59_s] at hf
    refine J_iload_n (pc' := 60) d_Md_settledNow_59 rfl 3 rfl ?_
    refine J_bipush (pc' := 62) (v := 32) d_Md_settledNow_60 rfl bc_32 ?_
    refine J_icmp_ge (pc' := 65) (tgt := 199) d_Md_settledNow_62 rfl (by decide) (fun hc4 => ?_) (fun hc4 => ?_)
    · have hf := brT hc4 hf
      refine J_iload_n (pc' := 200) d_Md_settledNow_199 rfl 2 rfl ?_
      refine J_aload_n (pc' := 201) d_Md_settledNow_200 rfl 0 rfl ?_
      refine J_getR (pc' := 204) d_Md_settledNow_201 rfl sh_66 fl_Md_61 rfl ?_
      refine J_iload_n (pc' := 205) d_Md_settledNow_204 rfl 1 rfl ?_
      obtain ⟨hg5, hf⟩ := gdE hf
      refine J_ial (pc' := 206) d_Md_settledNow_205 rfl sh_84 (vinP hg5) ?_
      refine J_isub (pc' := 207) d_Md_settledNow_206 rfl ?_
      obtain ⟨rfl, rfl⟩ := resE hf
      exact J_iret d_Md_settledNow_207
    · have hf := brF hc4 hf
      refine J_aload_n (pc' := 66) d_Md_settledNow_65 rfl 0 rfl ?_
      refine J_getR (pc' := 69) d_Md_settledNow_66 rfl sh_66 fl_Md_61 rfl ?_
      refine J_iload_n (pc' := 70) d_Md_settledNow_69 rfl 3 rfl ?_
      refine J_iload_n (pc' := 71) d_Md_settledNow_70 rfl 3 rfl ?_
      refine J_if_ne (pc' := 74) (tgt := 78) d_Md_settledNow_71 rfl (by decide) (fun hc6 => ?_) (fun hc6 => ?_)
      · have hf := brF hc6 hf
        refine J_iconst (pc' := 79) (v := (-1)) d_Md_settledNow_78 rfl ic_m1 ?_
        exact j_Md_settledNow_79 ih _ _ _ _ _ _ hf
      · have hf := brT hc6 hf
        refine J_iconst (pc' := 75) (v := 0) d_Md_settledNow_74 rfl ic_0 ?_
        refine J_goto (tgt := 79) d_Md_settledNow_75 (by decide) ?_
        exact j_Md_settledNow_79 ih _ _ _ _ _ _ hf
def f_Md_settledNow_49 (k10 : Sg → Int32 → Int32 → Int32 → Option (Int32 × Sg)) (σ : Sg) (v1 : Int32) (v3 : Int32) (s0 : Int32) (s1 : Int32) : Option (Int32 × Sg) :=
  k10 σ v1 (s1 + s0) (v3 + 1)
set_option maxHeartbeats 4000000 in
theorem j_Md_settledNow_49 {V : Vx} {X : Xx} {r : Int32} {σ' : Sg} {k10 : Sg → Int32 → Int32 → Int32 → Option (Int32 × Sg)} (hk10 : ∀ (σ : Sg) (v1 : Int32) (v2 : Int32) (v3 : Int32), k10 σ v1 v2 v3 = some (r, σ') → J V X (k2_rm 5 114) c_Md_settledNow R_Md 6 (some .int) (Qr V X (some (.int r)) σ') σ 10 [(0, rf V 66), (1, .int v1), (2, .int v2), (3, .int v3)] []) (σ : Sg) (v1 : Int32) (v3 : Int32) (s0 : Int32) (s1 : Int32) (hf : f_Md_settledNow_49 k10 σ v1 v3 s0 s1 = some (r, σ')) : J V X (k2_rm 5 114) c_Md_settledNow R_Md 6 (some .int) (Qr V X (some (.int r)) σ') σ 49 [(0, rf V 66), (1, .int v1), (3, .int v3)] [.int s0, .int s1] := by
  unfold f_Md_settledNow_49 at hf
  refine J_iadd (pc' := 50) d_Md_settledNow_49 rfl ?_
  refine J_istore_n (pc' := 51) (lv' := [(2, .int (s1 + s0)), (0, rf V 66), (1, .int v1), (3, .int v3)]) d_Md_settledNow_50 rfl rfl (by decide) rfl ?_
  refine J_iinc (pc' := 54) (j := 3) (v := 1) (lv' := [(3, .int (v3 + 1)), (2, .int (s1 + s0)), (0, rf V 66), (1, .int v1)]) d_Md_settledNow_51 rfl rfl ic_1 (by decide) rfl ?_
  refine J_goto (tgt := 10) d_Md_settledNow_54 (by decide) ?_
  refine J_pick [2, 3, 1, 0] rfl ?_
  exact hk10 _ _ _ _ hf
def f_Md_settledNow_32 (k10 : Sg → Int32 → Int32 → Int32 → Option (Int32 × Sg)) (σ : Sg) (v2 : Int32) (v3 : Int32) (s0 : Int32) (s1 : Int32) : Option (Int32 × Sg) :=
  gd (vin v3 5) (
    if (σ.1 83 v3.toNatClampNeg) = 0 then f_Md_settledNow_49 k10 σ (s1 ||| s0) v3 0 v2 else f_Md_settledNow_49 k10 σ (s1 ||| s0) v3 1 v2)
set_option maxHeartbeats 4000000 in
theorem j_Md_settledNow_32 {V : Vx} {X : Xx} {r : Int32} {σ' : Sg} {k10 : Sg → Int32 → Int32 → Int32 → Option (Int32 × Sg)} (hk10 : ∀ (σ : Sg) (v1 : Int32) (v2 : Int32) (v3 : Int32), k10 σ v1 v2 v3 = some (r, σ') → J V X (k2_rm 5 114) c_Md_settledNow R_Md 6 (some .int) (Qr V X (some (.int r)) σ') σ 10 [(0, rf V 66), (1, .int v1), (2, .int v2), (3, .int v3)] []) (σ : Sg) (v2 : Int32) (v3 : Int32) (s0 : Int32) (s1 : Int32) (hf : f_Md_settledNow_32 k10 σ v2 v3 s0 s1 = some (r, σ')) : J V X (k2_rm 5 114) c_Md_settledNow R_Md 6 (some .int) (Qr V X (some (.int r)) σ') σ 32 [(0, rf V 66), (2, .int v2), (3, .int v3)] [.int s0, .int s1] := by
  unfold f_Md_settledNow_32 at hf
  refine J_ior (pc' := 33) d_Md_settledNow_32 rfl ?_
  refine J_istore_n (pc' := 34) (lv' := [(1, .int (s1 ||| s0)), (0, rf V 66), (2, .int v2), (3, .int v3)]) d_Md_settledNow_33 rfl rfl (by decide) rfl ?_
  refine J_iload_n (pc' := 35) d_Md_settledNow_34 rfl 2 rfl ?_
  refine J_aload_n (pc' := 36) d_Md_settledNow_35 rfl 1 rfl ?_
  refine J_getR (pc' := 39) d_Md_settledNow_36 rfl sh_66 fl_Md_58 rfl ?_
  refine J_iload_n (pc' := 40) d_Md_settledNow_39 rfl 3 rfl ?_
  obtain ⟨hg24, hf⟩ := gdE hf
  refine J_ial (pc' := 41) d_Md_settledNow_40 rfl sh_83 (vinP hg24) ?_
  refine J_if_eq (pc' := 44) (tgt := 48) d_Md_settledNow_41 rfl (by decide) (fun hc25 => ?_) (fun hc25 => ?_)
  · have hf := brT hc25 hf
    refine J_iconst (pc' := 49) (v := 0) d_Md_settledNow_48 rfl ic_0 ?_
    refine J_pick [1, 0, 3] rfl ?_
    exact j_Md_settledNow_49 hk10 _ _ _ _ _ hf
  · have hf := brF hc25 hf
    refine J_iconst (pc' := 45) (v := 1) d_Md_settledNow_44 rfl ic_1 ?_
    refine J_goto (tgt := 49) d_Md_settledNow_45 (by decide) ?_
    refine J_pick [1, 0, 3] rfl ?_
    exact j_Md_settledNow_49 hk10 _ _ _ _ _ hf
def f_Md_settledNow_10 : Nat → Sg → Int32 → Int32 → Int32 → Option (Int32 × Sg)
  | 0, _, _, _, _ => none
  | n + 1, σ, v1, v2, v3 =>
    if 5 ≤ v3 then
      f_Md_settledNow_59 FU σ v1 v2 0
    else
      gd (vin v3 5) (
        if (σ.1 83 v3.toNatClampNeg) = 0 then
          f_Md_settledNow_32 (f_Md_settledNow_10 n) σ v2 v3 0 v1
        else
          f_Md_settledNow_32 (f_Md_settledNow_10 n) σ v2 v3 (1 <<< (v3 &&& 31)) v1)
theorem f_Md_settledNow_10_s (n : Nat) (σ : Sg) (v1 : Int32) (v2 : Int32) (v3 : Int32) : f_Md_settledNow_10 (n + 1) σ v1 v2 v3 =
    if 5 ≤ v3 then
      f_Md_settledNow_59 FU σ v1 v2 0
    else
      gd (vin v3 5) (
        if (σ.1 83 v3.toNatClampNeg) = 0 then
          f_Md_settledNow_32 (f_Md_settledNow_10 n) σ v2 v3 0 v1
        else
          f_Md_settledNow_32 (f_Md_settledNow_10 n) σ v2 v3 (1 <<< (v3 &&& 31)) v1) := rfl
set_option maxHeartbeats 4000000 in
theorem j_Md_settledNow_10 {V : Vx} {X : Xx} {r : Int32} {σ' : Sg}  : ∀ (n : Nat) (σ : Sg) (v1 : Int32) (v2 : Int32) (v3 : Int32), f_Md_settledNow_10 n σ v1 v2 v3 = some (r, σ') → J V X (k2_rm 5 114) c_Md_settledNow R_Md 6 (some .int) (Qr V X (some (.int r)) σ') σ 10 [(0, rf V 66), (1, .int v1), (2, .int v2), (3, .int v3)] [] := by
  intro n
  induction n with
  | zero => intro σ v1 v2 v3 hf; exact nn hf
  | succ n ih =>
    intro σ v1 v2 v3 hf
    rw [f_Md_settledNow_10_s] at hf
    refine J_iload_n (pc' := 11) d_Md_settledNow_10 rfl 3 rfl ?_
    refine J_iconst (pc' := 12) (v := 5) d_Md_settledNow_11 rfl ic_5 ?_
    refine J_icmp_ge (pc' := 15) (tgt := 57) d_Md_settledNow_12 rfl (by decide) (fun hc3 => ?_) (fun hc3 => ?_)
    · have hf := brT hc3 hf
      refine J_iconst (pc' := 58) (v := 0) d_Md_settledNow_57 rfl ic_0 ?_
      refine J_istore_n (pc' := 59) (lv' := [(3, .int 0), (0, rf V 66), (1, .int v1), (2, .int v2)]) d_Md_settledNow_58 rfl rfl (by decide) rfl ?_
      refine J_pick [1, 2, 3, 0] rfl ?_
      exact j_Md_settledNow_59 FU _ _ _ _ hf
    · have hf := brF hc3 hf
      refine J_iload_n (pc' := 16) d_Md_settledNow_15 rfl 1 rfl ?_
      refine J_aload_n (pc' := 17) d_Md_settledNow_16 rfl 0 rfl ?_
      refine J_getR (pc' := 20) d_Md_settledNow_17 rfl sh_66 fl_Md_58 rfl ?_
      refine J_iload_n (pc' := 21) d_Md_settledNow_20 rfl 3 rfl ?_
      obtain ⟨hg22, hf⟩ := gdE hf
      refine J_ial (pc' := 22) d_Md_settledNow_21 rfl sh_83 (vinP hg22) ?_
      refine J_if_eq (pc' := 25) (tgt := 31) d_Md_settledNow_22 rfl (by decide) (fun hc23 => ?_) (fun hc23 => ?_)
      · have hf := brT hc23 hf
        refine J_iconst (pc' := 32) (v := 0) d_Md_settledNow_31 rfl ic_0 ?_
        refine J_pick [0, 2, 3] rfl ?_
        exact j_Md_settledNow_32 ih _ _ _ _ _ hf
      · have hf := brF hc23 hf
        refine J_iconst (pc' := 26) (v := 1) d_Md_settledNow_25 rfl ic_1 ?_
        refine J_iload_n (pc' := 27) d_Md_settledNow_26 rfl 3 rfl ?_
        refine J_ishl (pc' := 28) d_Md_settledNow_27 rfl ?_
        refine J_goto (tgt := 32) d_Md_settledNow_28 (by decide) ?_
        refine J_pick [0, 2, 3] rfl ?_
        exact j_Md_settledNow_32 ih _ _ _ _ _ hf
def f_Md_settledNow (σ : Sg)  : Option (Int32 × Sg) :=
  (f_Md_findBalances σ).bind fun σ2 =>
    f_Md_settledNow_10 FU σ2 0 0 0
set_option maxHeartbeats 4000000 in
theorem j_Md_settledNow {V : Vx} {X : Xx} {r : Int32} {σ' : Sg} (σ : Sg) (hf : f_Md_settledNow σ = some (r, σ')) : J V X (k2_rm 5 114) c_Md_settledNow R_Md 6 (some .int) (Qr V X (some (.int r)) σ') σ 0 [(0, rf V 66)] [] := by
  unfold f_Md_settledNow at hf
  refine J_aload_n (pc' := 1) d_Md_settledNow_0 rfl 0 rfl ?_
  obtain ⟨σ2, hq1, hf⟩ := bpE hf
  refine J_V (pc' := 4) (as := []) (rest := []) (st' := []) d_Md_settledNow_1 rfl sh_66 rfl mv_Md_310 (ct_Md_findBalances V _ σ hq1) rfl rfl ⟨Nat.le_of_ble_eq_true rfl, Nat.le_of_ble_eq_true rfl⟩ ⟨rfl, rfl⟩ (Nat.le_of_ble_eq_true rfl) rfl ?_
  refine J_iconst (pc' := 5) (v := 0) d_Md_settledNow_4 rfl ic_0 ?_
  refine J_istore_n (pc' := 6) (lv' := [(1, .int 0), (0, rf V 66)]) d_Md_settledNow_5 rfl rfl (by decide) rfl ?_
  refine J_iconst (pc' := 7) (v := 0) d_Md_settledNow_6 rfl ic_0 ?_
  refine J_istore_n (pc' := 8) (lv' := [(2, .int 0), (1, .int 0), (0, rf V 66)]) d_Md_settledNow_7 rfl rfl (by decide) rfl ?_
  refine J_iconst (pc' := 9) (v := 0) d_Md_settledNow_8 rfl ic_0 ?_
  refine J_istore_n (pc' := 10) (lv' := [(3, .int 0), (2, .int 0), (1, .int 0), (0, rf V 66)]) d_Md_settledNow_9 rfl rfl (by decide) rfl ?_
  refine J_pick [3, 2, 1, 0] rfl ?_
  exact j_Md_settledNow_10 FU _ _ _ _ hf
theorem ct_Md_settledNow (V : Vx) (l : Launch) (σ : Sg) {r : Int32} {σ' : Sg} (hf : f_Md_settledNow σ = some (r, σ')) : Ct V l y_Md_settledNow c_Md_settledNow 6 (some .int) (k2_rm 5 114) [rf V 66] σ (some (.int r)) σ' := Ct.ofJ (by decide +kernel) (Nat.le_of_ble_eq_true rfl) fun X _ => j_Md_settledNow _  hf
def f_Md_settled (σ : Sg)  : Option (Int32 × Sg) :=
  bd (f_Md_settledNow σ) fun r3 σ2 =>
    some (r3, σ2)
set_option maxHeartbeats 4000000 in
theorem j_Md_settled {V : Vx} {X : Xx} {r : Int32} {σ' : Sg} (σ : Sg) (hf : f_Md_settled σ = some (r, σ')) : J V X (k2_rm 6 139) c_Md_settled R_Md 1 (some .int) (Qr V X (some (.int r)) σ') σ 0 [(0, rf V 66)] [] := by
  unfold f_Md_settled at hf
  refine J_aload_n (pc' := 1) d_Md_settled_0 rfl 0 rfl ?_
  obtain ⟨r3, σ2, hq1, hf⟩ := bdE hf
  refine J_V (pc' := 4) (as := []) (rest := []) (st' := [.int r3]) d_Md_settled_1 rfl sh_66 rfl mv_Md_319 (ct_Md_settledNow V _ σ hq1) rfl rfl ⟨Nat.le_of_ble_eq_true rfl, Nat.le_of_ble_eq_true rfl⟩ ⟨rfl, rfl⟩ (Nat.le_of_ble_eq_true rfl) rfl ?_
  obtain ⟨rfl, rfl⟩ := resE hf
  exact J_iret d_Md_settled_4
theorem ct_Md_settled (V : Vx) (l : Launch) (σ : Sg) {r : Int32} {σ' : Sg} (hf : f_Md_settled σ = some (r, σ')) : Ct V l y_Md_settled c_Md_settled 1 (some .int) (k2_rm 6 139) [rf V 66] σ (some (.int r)) σ' := Ct.ofJ (by decide +kernel) (Nat.le_of_ble_eq_true rfl) fun X _ => j_Md_settled _  hf
def f_Md_knots_27 (σ : Sg)  : Option (Int64 × Sg) :=
  some (f_Md_no (-2), σ)
set_option maxHeartbeats 4000000 in
theorem j_Md_knots_27 {V : Vx} {X : Xx} {r : Int64} {σ' : Sg}  (σ : Sg) (hf : f_Md_knots_27 σ = some (r, σ')) : J V X (k2_rm 5 112) c_Md_knots R_Md 7 (some .long) (Qr V X (some (.long r)) σ') σ 27 [] [] := by
  unfold f_Md_knots_27 at hf
  refine J_bipush (pc' := 29) (v := (-2)) d_Md_knots_27 rfl bc_m2 ?_
  refine J_S (pc' := 32) (as := [.int (-2)]) (rest := []) (st' := [.long (f_Md_no (-2))]) d_Md_knots_29 rfl ms_Md_170 (ct_Md_no V _ σ (-2)) rfl rfl ⟨Nat.le_of_ble_eq_true rfl, Nat.le_of_ble_eq_true rfl⟩ ⟨rfl, rfl⟩ (Nat.le_of_ble_eq_true rfl) rfl ?_
  obtain ⟨rfl, rfl⟩ := resE hf
  exact J_lret d_Md_knots_32
def f_Md_knots_156 (k69 : Sg → Int32 → Int32 → Int32 → Int32 → Option (Int64 × Sg)) : Nat → Sg → Int32 → Int32 → Int32 → Int32 → Int32 → Option (Int64 × Sg)
  | 0, _, _, _, _, _, _ => none
  | n + 1, σ, v1, v2, v3, v4, v5 =>
    if 100 ≤ v5 then
      k69 σ v1 v2 v3 (v4 + 1)
    else
      gd (vin v5 100) (
        gd (vin v5 100) (
          f_Md_knots_156 k69 n (pL σ 85 v5.toNatClampNeg (σ.2 86 v5.toNatClampNeg)) v1 v2 v3 v4 (v5 + 1)))
theorem f_Md_knots_156_s (k69 : Sg → Int32 → Int32 → Int32 → Int32 → Option (Int64 × Sg)) (n : Nat) (σ : Sg) (v1 : Int32) (v2 : Int32) (v3 : Int32) (v4 : Int32) (v5 : Int32) : f_Md_knots_156 k69 (n + 1) σ v1 v2 v3 v4 v5 =
    if 100 ≤ v5 then
      k69 σ v1 v2 v3 (v4 + 1)
    else
      gd (vin v5 100) (
        gd (vin v5 100) (
          f_Md_knots_156 k69 n (pL σ 85 v5.toNatClampNeg (σ.2 86 v5.toNatClampNeg)) v1 v2 v3 v4 (v5 + 1))) := rfl
set_option maxHeartbeats 4000000 in
theorem j_Md_knots_156 {V : Vx} {X : Xx} {r : Int64} {σ' : Sg} {k69 : Sg → Int32 → Int32 → Int32 → Int32 → Option (Int64 × Sg)} (hk69 : ∀ (σ : Sg) (v1 : Int32) (v2 : Int32) (v3 : Int32) (v4 : Int32), k69 σ v1 v2 v3 v4 = some (r, σ') → J V X (k2_rm 5 112) c_Md_knots R_Md 7 (some .long) (Qr V X (some (.long r)) σ') σ 69 [(0, rf V 66), (1, .int v1), (2, .int v2), (3, .int v3), (4, .int v4)] []) : ∀ (n : Nat) (σ : Sg) (v1 : Int32) (v2 : Int32) (v3 : Int32) (v4 : Int32) (v5 : Int32), f_Md_knots_156 k69 n σ v1 v2 v3 v4 v5 = some (r, σ') → J V X (k2_rm 5 112) c_Md_knots R_Md 7 (some .long) (Qr V X (some (.long r)) σ') σ 156 [(0, rf V 66), (1, .int v1), (2, .int v2), (3, .int v3), (4, .int v4), (5, .int v5)] [] := by
  intro n
  induction n with
  | zero => intro σ v1 v2 v3 v4 v5 hf; exact nn hf
  | succ n ih =>
    intro σ v1 v2 v3 v4 v5 hf
    rw [f_Md_knots_156_s] at hf
    refine J_iload (pc' := 158) d_Md_knots_156 rfl 5 rfl ?_
    refine J_bipush (pc' := 160) (v := 100) d_Md_knots_158 rfl bc_100 ?_
    refine J_icmp_ge (pc' := 163) (tgt := 183) d_Md_knots_160 rfl (by decide) (fun hc11 => ?_) (fun hc11 => ?_)
    · have hf := brT hc11 hf
      refine J_iinc (pc' := 186) (j := 4) (v := 1) (lv' := [(4, .int (v4 + 1)), (0, rf V 66), (1, .int v1), (2, .int v2), (3, .int v3), (5, .int v5)]) d_Md_knots_183 rfl rfl ic_1 (by decide) rfl ?_
      refine J_goto (tgt := 69) d_Md_knots_186 (by decide) ?_
      refine J_pick [1, 2, 3, 4, 0] rfl ?_
      exact hk69 _ _ _ _ _ hf
    · have hf := brF hc11 hf
      refine J_aload_n (pc' := 164) d_Md_knots_163 rfl 0 rfl ?_
      refine J_getR (pc' := 167) d_Md_knots_164 rfl sh_66 fl_Md_64 rfl ?_
      refine J_iload (pc' := 169) d_Md_knots_167 rfl 5 rfl ?_
      refine J_aload_n (pc' := 170) d_Md_knots_169 rfl 0 rfl ?_
      refine J_getR (pc' := 173) d_Md_knots_170 rfl sh_66 fl_Md_68 rfl ?_
      refine J_iload (pc' := 175) d_Md_knots_173 rfl 5 rfl ?_
      obtain ⟨hg12, hf⟩ := gdE hf
      refine J_lal (pc' := 176) d_Md_knots_175 rfl sh_86 (vinP hg12) ?_
      obtain ⟨hg13, hf⟩ := gdE hf
      refine J_las (pc' := 177) d_Md_knots_176 rfl sh_85 (vinP hg13) ?_
      refine J_iinc (pc' := 180) (j := 5) (v := 1) (lv' := [(5, .int (v5 + 1)), (0, rf V 66), (1, .int v1), (2, .int v2), (3, .int v3), (4, .int v4)]) d_Md_knots_177 rfl rfl ic_1 (by decide) rfl ?_
      refine J_goto (tgt := 156) d_Md_knots_180 (by decide) ?_
      refine J_pick [1, 2, 3, 4, 5, 0] rfl ?_
      exact ih _ _ _ _ _ _ hf
def f_Md_knots_147 (k69 : Sg → Int32 → Int32 → Int32 → Int32 → Option (Int64 × Sg)) (k78 : Sg → Int32 → Int32 → Int32 → Int32 → Int32 → Option (Int64 × Sg)) (σ : Sg) (v1 : Int32) (v2 : Int32) (v3 : Int32) (v4 : Int32) (v5 : Int32) : Option (Int64 × Sg) :=
  k78 σ v1 v2 v3 v4 (v5 + 1)
set_option maxHeartbeats 4000000 in
theorem j_Md_knots_147 {V : Vx} {X : Xx} {r : Int64} {σ' : Sg} {k69 : Sg → Int32 → Int32 → Int32 → Int32 → Option (Int64 × Sg)} {k78 : Sg → Int32 → Int32 → Int32 → Int32 → Int32 → Option (Int64 × Sg)} (hk69 : ∀ (σ : Sg) (v1 : Int32) (v2 : Int32) (v3 : Int32) (v4 : Int32), k69 σ v1 v2 v3 v4 = some (r, σ') → J V X (k2_rm 5 112) c_Md_knots R_Md 7 (some .long) (Qr V X (some (.long r)) σ') σ 69 [(0, rf V 66), (1, .int v1), (2, .int v2), (3, .int v3), (4, .int v4)] []) (hk78 : ∀ (σ : Sg) (v1 : Int32) (v2 : Int32) (v3 : Int32) (v4 : Int32) (v5 : Int32), k78 σ v1 v2 v3 v4 v5 = some (r, σ') → J V X (k2_rm 5 112) c_Md_knots R_Md 7 (some .long) (Qr V X (some (.long r)) σ') σ 78 [(0, rf V 66), (1, .int v1), (2, .int v2), (3, .int v3), (4, .int v4), (5, .int v5)] []) (σ : Sg) (v1 : Int32) (v2 : Int32) (v3 : Int32) (v4 : Int32) (v5 : Int32) (hf : f_Md_knots_147 k69 k78 σ v1 v2 v3 v4 v5 = some (r, σ')) : J V X (k2_rm 5 112) c_Md_knots R_Md 7 (some .long) (Qr V X (some (.long r)) σ') σ 147 [(0, rf V 66), (1, .int v1), (2, .int v2), (3, .int v3), (4, .int v4), (5, .int v5)] [] := by
  unfold f_Md_knots_147 at hf
  refine J_iinc (pc' := 150) (j := 5) (v := 1) (lv' := [(5, .int (v5 + 1)), (0, rf V 66), (1, .int v1), (2, .int v2), (3, .int v3), (4, .int v4)]) d_Md_knots_147 rfl rfl ic_1 (by decide) rfl ?_
  refine J_goto (tgt := 78) d_Md_knots_150 (by decide) ?_
  refine J_pick [1, 2, 3, 4, 5, 0] rfl ?_
  exact hk78 _ _ _ _ _ _ hf
def f_Md_knots_96 (k69 : Sg → Int32 → Int32 → Int32 → Int32 → Option (Int64 × Sg)) (k78 : Sg → Int32 → Int32 → Int32 → Int32 → Int32 → Option (Int64 × Sg)) : Nat → Sg → Int32 → Int32 → Int32 → Int32 → Int32 → Int32 → Option (Int64 × Sg)
  | 0, _, _, _, _, _, _, _ => none
  | n + 1, σ, v1, v2, v3, v4, v5, v6 =>
    gd (vin ((6 * v1) + 3) 54) (
      if (σ.1 73 ((6 * v1) + 3).toNatClampNeg) < v6 then
        f_Md_knots_147 k69 k78 σ v1 v2 v3 v4 v5
      else
        if v5 ≤ v6 then
          f_Md_knots_147 k69 k78 σ v1 v2 v3 v4 v5
        else
          gd (vin v5 100) (
            gd (vin ((v5 - v6) - 1) 100) (
              gd (vin v5 100) (
                f_Md_knots_96 k69 k78 n (pL σ 86 v5.toNatClampNeg ((σ.2 86 v5.toNatClampNeg) + (σ.2 85 ((v5 - v6) - 1).toNatClampNeg))) v1 v2 v3 v4 v5 (v6 + 1)))))
theorem f_Md_knots_96_s (k69 : Sg → Int32 → Int32 → Int32 → Int32 → Option (Int64 × Sg)) (k78 : Sg → Int32 → Int32 → Int32 → Int32 → Int32 → Option (Int64 × Sg)) (n : Nat) (σ : Sg) (v1 : Int32) (v2 : Int32) (v3 : Int32) (v4 : Int32) (v5 : Int32) (v6 : Int32) : f_Md_knots_96 k69 k78 (n + 1) σ v1 v2 v3 v4 v5 v6 =
    gd (vin ((6 * v1) + 3) 54) (
      if (σ.1 73 ((6 * v1) + 3).toNatClampNeg) < v6 then
        f_Md_knots_147 k69 k78 σ v1 v2 v3 v4 v5
      else
        if v5 ≤ v6 then
          f_Md_knots_147 k69 k78 σ v1 v2 v3 v4 v5
        else
          gd (vin v5 100) (
            gd (vin ((v5 - v6) - 1) 100) (
              gd (vin v5 100) (
                f_Md_knots_96 k69 k78 n (pL σ 86 v5.toNatClampNeg ((σ.2 86 v5.toNatClampNeg) + (σ.2 85 ((v5 - v6) - 1).toNatClampNeg))) v1 v2 v3 v4 v5 (v6 + 1))))) := rfl
set_option maxHeartbeats 4000000 in
theorem j_Md_knots_96 {V : Vx} {X : Xx} {r : Int64} {σ' : Sg} {k69 : Sg → Int32 → Int32 → Int32 → Int32 → Option (Int64 × Sg)} {k78 : Sg → Int32 → Int32 → Int32 → Int32 → Int32 → Option (Int64 × Sg)} (hk69 : ∀ (σ : Sg) (v1 : Int32) (v2 : Int32) (v3 : Int32) (v4 : Int32), k69 σ v1 v2 v3 v4 = some (r, σ') → J V X (k2_rm 5 112) c_Md_knots R_Md 7 (some .long) (Qr V X (some (.long r)) σ') σ 69 [(0, rf V 66), (1, .int v1), (2, .int v2), (3, .int v3), (4, .int v4)] []) (hk78 : ∀ (σ : Sg) (v1 : Int32) (v2 : Int32) (v3 : Int32) (v4 : Int32) (v5 : Int32), k78 σ v1 v2 v3 v4 v5 = some (r, σ') → J V X (k2_rm 5 112) c_Md_knots R_Md 7 (some .long) (Qr V X (some (.long r)) σ') σ 78 [(0, rf V 66), (1, .int v1), (2, .int v2), (3, .int v3), (4, .int v4), (5, .int v5)] []) : ∀ (n : Nat) (σ : Sg) (v1 : Int32) (v2 : Int32) (v3 : Int32) (v4 : Int32) (v5 : Int32) (v6 : Int32), f_Md_knots_96 k69 k78 n σ v1 v2 v3 v4 v5 v6 = some (r, σ') → J V X (k2_rm 5 112) c_Md_knots R_Md 7 (some .long) (Qr V X (some (.long r)) σ') σ 96 [(0, rf V 66), (1, .int v1), (2, .int v2), (3, .int v3), (4, .int v4), (5, .int v5), (6, .int v6)] [] := by
  intro n
  induction n with
  | zero => intro σ v1 v2 v3 v4 v5 v6 hf; exact nn hf
  | succ n ih =>
    intro σ v1 v2 v3 v4 v5 v6 hf
    rw [f_Md_knots_96_s] at hf
    refine J_iload (pc' := 98) d_Md_knots_96 rfl 6 rfl ?_
    refine J_aload_n (pc' := 99) d_Md_knots_98 rfl 0 rfl ?_
    refine J_getR (pc' := 102) d_Md_knots_99 rfl sh_66 fl_Md_28 rfl ?_
    refine J_bipush (pc' := 104) (v := 6) d_Md_knots_102 rfl bc_6 ?_
    refine J_iload_n (pc' := 105) d_Md_knots_104 rfl 1 rfl ?_
    refine J_imul (pc' := 106) d_Md_knots_105 rfl ?_
    refine J_iconst (pc' := 107) (v := 3) d_Md_knots_106 rfl ic_3 ?_
    refine J_iadd (pc' := 108) d_Md_knots_107 rfl ?_
    obtain ⟨hg15, hf⟩ := gdE hf
    refine J_ial (pc' := 109) d_Md_knots_108 rfl sh_73 (vinP hg15) ?_
    refine J_icmp_gt (pc' := 112) (tgt := 147) d_Md_knots_109 rfl (by decide) (fun hc16 => ?_) (fun hc16 => ?_)
    · have hf := brT hc16 hf
      refine J_pick [0, 1, 2, 3, 4, 5] rfl ?_
      exact j_Md_knots_147 hk69 hk78 _ _ _ _ _ _ hf
    · have hf := brF hc16 hf
      refine J_iload (pc' := 114) d_Md_knots_112 rfl 6 rfl ?_
      refine J_iload (pc' := 116) d_Md_knots_114 rfl 5 rfl ?_
      refine J_icmp_ge (pc' := 119) (tgt := 147) d_Md_knots_116 rfl (by decide) (fun hc17 => ?_) (fun hc17 => ?_)
      · have hf := brT hc17 hf
        refine J_pick [0, 1, 2, 3, 4, 5] rfl ?_
        exact j_Md_knots_147 hk69 hk78 _ _ _ _ _ _ hf
      · have hf := brF hc17 hf
        refine J_aload_n (pc' := 120) d_Md_knots_119 rfl 0 rfl ?_
        refine J_getR (pc' := 123) d_Md_knots_120 rfl sh_66 fl_Md_68 rfl ?_
        refine J_iload (pc' := 125) d_Md_knots_123 rfl 5 rfl ?_
        refine J_dup2 (pc' := 126) d_Md_knots_125 rfl rfl rfl ?_
        obtain ⟨hg18, hf⟩ := gdE hf
        refine J_lal (pc' := 127) d_Md_knots_126 rfl sh_86 (vinP hg18) ?_
        refine J_aload_n (pc' := 128) d_Md_knots_127 rfl 0 rfl ?_
        refine J_getR (pc' := 131) d_Md_knots_128 rfl sh_66 fl_Md_64 rfl ?_
        refine J_iload (pc' := 133) d_Md_knots_131 rfl 5 rfl ?_
        refine J_iload (pc' := 135) d_Md_knots_133 rfl 6 rfl ?_
        refine J_isub (pc' := 136) d_Md_knots_135 rfl ?_
        refine J_iconst (pc' := 137) (v := 1) d_Md_knots_136 rfl ic_1 ?_
        refine J_isub (pc' := 138) d_Md_knots_137 rfl ?_
        obtain ⟨hg19, hf⟩ := gdE hf
        refine J_lal (pc' := 139) d_Md_knots_138 rfl sh_85 (vinP hg19) ?_
        refine J_ladd (pc' := 140) d_Md_knots_139 rfl ?_
        obtain ⟨hg20, hf⟩ := gdE hf
        refine J_las (pc' := 141) d_Md_knots_140 rfl sh_86 (vinP hg20) ?_
        refine J_iinc (pc' := 144) (j := 6) (v := 1) (lv' := [(6, .int (v6 + 1)), (0, rf V 66), (1, .int v1), (2, .int v2), (3, .int v3), (4, .int v4), (5, .int v5)]) d_Md_knots_141 rfl rfl ic_1 (by decide) rfl ?_
        refine J_goto (tgt := 96) d_Md_knots_144 (by decide) ?_
        refine J_pick [1, 2, 3, 4, 5, 6, 0] rfl ?_
        exact ih _ _ _ _ _ _ _ hf
def f_Md_knots_78 (k69 : Sg → Int32 → Int32 → Int32 → Int32 → Option (Int64 × Sg)) : Nat → Sg → Int32 → Int32 → Int32 → Int32 → Int32 → Option (Int64 × Sg)
  | 0, _, _, _, _, _, _ => none
  | n + 1, σ, v1, v2, v3, v4, v5 =>
    if 100 ≤ v5 then
      f_Md_knots_156 k69 FU σ v1 v2 v3 v4 0
    else
      gd (vin v5 100) (
        f_Md_knots_96 k69 (f_Md_knots_78 k69 n) FU (pL σ 86 v5.toNatClampNeg 0) v1 v2 v3 v4 v5 0)
theorem f_Md_knots_78_s (k69 : Sg → Int32 → Int32 → Int32 → Int32 → Option (Int64 × Sg)) (n : Nat) (σ : Sg) (v1 : Int32) (v2 : Int32) (v3 : Int32) (v4 : Int32) (v5 : Int32) : f_Md_knots_78 k69 (n + 1) σ v1 v2 v3 v4 v5 =
    if 100 ≤ v5 then
      f_Md_knots_156 k69 FU σ v1 v2 v3 v4 0
    else
      gd (vin v5 100) (
        f_Md_knots_96 k69 (f_Md_knots_78 k69 n) FU (pL σ 86 v5.toNatClampNeg 0) v1 v2 v3 v4 v5 0) := rfl
set_option maxHeartbeats 4000000 in
theorem j_Md_knots_78 {V : Vx} {X : Xx} {r : Int64} {σ' : Sg} {k69 : Sg → Int32 → Int32 → Int32 → Int32 → Option (Int64 × Sg)} (hk69 : ∀ (σ : Sg) (v1 : Int32) (v2 : Int32) (v3 : Int32) (v4 : Int32), k69 σ v1 v2 v3 v4 = some (r, σ') → J V X (k2_rm 5 112) c_Md_knots R_Md 7 (some .long) (Qr V X (some (.long r)) σ') σ 69 [(0, rf V 66), (1, .int v1), (2, .int v2), (3, .int v3), (4, .int v4)] []) : ∀ (n : Nat) (σ : Sg) (v1 : Int32) (v2 : Int32) (v3 : Int32) (v4 : Int32) (v5 : Int32), f_Md_knots_78 k69 n σ v1 v2 v3 v4 v5 = some (r, σ') → J V X (k2_rm 5 112) c_Md_knots R_Md 7 (some .long) (Qr V X (some (.long r)) σ') σ 78 [(0, rf V 66), (1, .int v1), (2, .int v2), (3, .int v3), (4, .int v4), (5, .int v5)] [] := by
  intro n
  induction n with
  | zero => intro σ v1 v2 v3 v4 v5 hf; exact nn hf
  | succ n ih =>
    intro σ v1 v2 v3 v4 v5 hf
    rw [f_Md_knots_78_s] at hf
    refine J_iload (pc' := 80) d_Md_knots_78 rfl 5 rfl ?_
    refine J_bipush (pc' := 82) (v := 100) d_Md_knots_80 rfl bc_100 ?_
    refine J_icmp_ge (pc' := 85) (tgt := 153) d_Md_knots_82 rfl (by decide) (fun hc10 => ?_) (fun hc10 => ?_)
    · have hf := brT hc10 hf
      refine J_iconst (pc' := 154) (v := 0) d_Md_knots_153 rfl ic_0 ?_
      refine J_istore (pc' := 156) (lv' := [(5, .int 0), (0, rf V 66), (1, .int v1), (2, .int v2), (3, .int v3), (4, .int v4)]) d_Md_knots_154 rfl (by decide) rfl ?_
      refine J_pick [1, 2, 3, 4, 5, 0] rfl ?_
      exact j_Md_knots_156 hk69 FU _ _ _ _ _ _ hf
    · have hf := brF hc10 hf
      refine J_aload_n (pc' := 86) d_Md_knots_85 rfl 0 rfl ?_
      refine J_getR (pc' := 89) d_Md_knots_86 rfl sh_66 fl_Md_68 rfl ?_
      refine J_iload (pc' := 91) d_Md_knots_89 rfl 5 rfl ?_
      refine J_lconst (pc' := 92) (v := 0) d_Md_knots_91 rfl lc_0 ?_
      obtain ⟨hg14, hf⟩ := gdE hf
      refine J_las (pc' := 93) d_Md_knots_92 rfl sh_86 (vinP hg14) ?_
      refine J_iconst (pc' := 94) (v := 0) d_Md_knots_93 rfl ic_0 ?_
      refine J_istore (pc' := 96) (lv' := [(6, .int 0), (0, rf V 66), (1, .int v1), (2, .int v2), (3, .int v3), (4, .int v4), (5, .int v5)]) d_Md_knots_94 rfl (by decide) rfl ?_
      refine J_pick [1, 2, 3, 4, 5, 6, 0] rfl ?_
      exact j_Md_knots_96 hk69 ih FU _ _ _ _ _ _ _ hf
def f_Md_knots_69 : Nat → Sg → Int32 → Int32 → Int32 → Int32 → Option (Int64 × Sg)
  | 0, _, _, _, _, _ => none
  | n + 1, σ, v1, v2, v3, v4 =>
    if v2 ≤ v4 then
      gd (vin v3 100) (
        some (σ.2 85 v3.toNatClampNeg, σ))
    else
      f_Md_knots_78 (f_Md_knots_69 n) FU σ v1 v2 v3 v4 0
theorem f_Md_knots_69_s (n : Nat) (σ : Sg) (v1 : Int32) (v2 : Int32) (v3 : Int32) (v4 : Int32) : f_Md_knots_69 (n + 1) σ v1 v2 v3 v4 =
    if v2 ≤ v4 then
      gd (vin v3 100) (
        some (σ.2 85 v3.toNatClampNeg, σ))
    else
      f_Md_knots_78 (f_Md_knots_69 n) FU σ v1 v2 v3 v4 0 := rfl
set_option maxHeartbeats 4000000 in
theorem j_Md_knots_69 {V : Vx} {X : Xx} {r : Int64} {σ' : Sg}  : ∀ (n : Nat) (σ : Sg) (v1 : Int32) (v2 : Int32) (v3 : Int32) (v4 : Int32), f_Md_knots_69 n σ v1 v2 v3 v4 = some (r, σ') → J V X (k2_rm 5 112) c_Md_knots R_Md 7 (some .long) (Qr V X (some (.long r)) σ') σ 69 [(0, rf V 66), (1, .int v1), (2, .int v2), (3, .int v3), (4, .int v4)] [] := by
  intro n
  induction n with
  | zero => intro σ v1 v2 v3 v4 hf; exact nn hf
  | succ n ih =>
    intro σ v1 v2 v3 v4 hf
    rw [f_Md_knots_69_s] at hf
    refine J_iload (pc' := 71) d_Md_knots_69 rfl 4 rfl ?_
    refine J_iload_n (pc' := 72) d_Md_knots_71 rfl 2 rfl ?_
    refine J_icmp_ge (pc' := 75) (tgt := 189) d_Md_knots_72 rfl (by decide) (fun hc8 => ?_) (fun hc8 => ?_)
    · have hf := brT hc8 hf
      refine J_aload_n (pc' := 190) d_Md_knots_189 rfl 0 rfl ?_
      refine J_getR (pc' := 193) d_Md_knots_190 rfl sh_66 fl_Md_64 rfl ?_
      refine J_iload_n (pc' := 194) d_Md_knots_193 rfl 3 rfl ?_
      obtain ⟨hg9, hf⟩ := gdE hf
      refine J_lal (pc' := 195) d_Md_knots_194 rfl sh_85 (vinP hg9) ?_
      obtain ⟨rfl, rfl⟩ := resE hf
      exact J_lret d_Md_knots_195
    · have hf := brF hc8 hf
      refine J_iconst (pc' := 76) (v := 0) d_Md_knots_75 rfl ic_0 ?_
      refine J_istore (pc' := 78) (lv' := [(5, .int 0), (0, rf V 66), (1, .int v1), (2, .int v2), (3, .int v3), (4, .int v4)]) d_Md_knots_76 rfl (by decide) rfl ?_
      refine J_pick [1, 2, 3, 4, 5, 0] rfl ?_
      exact j_Md_knots_78 ih FU _ _ _ _ _ _ hf
def f_Md_knots_59 (k36 : Sg → Int32 → Int32 → Int32 → Int32 → Option (Int64 × Sg)) (σ : Sg) (v1 : Int32) (v2 : Int32) (v3 : Int32) (v4 : Int32) (s0 : Int64) (s1 : Int32) : Option (Int64 × Sg) :=
  gd (vin s1 100) (
    k36 (pL σ 85 s1.toNatClampNeg s0) v1 v2 v3 (v4 + 1))
set_option maxHeartbeats 4000000 in
theorem j_Md_knots_59 {V : Vx} {X : Xx} {r : Int64} {σ' : Sg} {k36 : Sg → Int32 → Int32 → Int32 → Int32 → Option (Int64 × Sg)} (hk36 : ∀ (σ : Sg) (v1 : Int32) (v2 : Int32) (v3 : Int32) (v4 : Int32), k36 σ v1 v2 v3 v4 = some (r, σ') → J V X (k2_rm 5 112) c_Md_knots R_Md 7 (some .long) (Qr V X (some (.long r)) σ') σ 36 [(0, rf V 66), (1, .int v1), (2, .int v2), (3, .int v3), (4, .int v4)] []) (σ : Sg) (v1 : Int32) (v2 : Int32) (v3 : Int32) (v4 : Int32) (s0 : Int64) (s1 : Int32) (hf : f_Md_knots_59 k36 σ v1 v2 v3 v4 s0 s1 = some (r, σ')) : J V X (k2_rm 5 112) c_Md_knots R_Md 7 (some .long) (Qr V X (some (.long r)) σ') σ 59 [(0, rf V 66), (1, .int v1), (2, .int v2), (3, .int v3), (4, .int v4)] [.long s0, .int s1, rf V 85] := by
  unfold f_Md_knots_59 at hf
  obtain ⟨hg22, hf⟩ := gdE hf
  refine J_las (pc' := 60) d_Md_knots_59 rfl sh_85 (vinP hg22) ?_
  refine J_iinc (pc' := 63) (j := 4) (v := 1) (lv' := [(4, .int (v4 + 1)), (0, rf V 66), (1, .int v1), (2, .int v2), (3, .int v3)]) d_Md_knots_60 rfl rfl ic_1 (by decide) rfl ?_
  refine J_goto (tgt := 36) d_Md_knots_63 (by decide) ?_
  refine J_pick [1, 2, 3, 4, 0] rfl ?_
  exact hk36 _ _ _ _ _ hf
def f_Md_knots_36 : Nat → Sg → Int32 → Int32 → Int32 → Int32 → Option (Int64 × Sg)
  | 0, _, _, _, _, _ => none
  | n + 1, σ, v1, v2, v3, v4 =>
    if 100 ≤ v4 then
      f_Md_knots_69 FU σ v1 v2 v3 0
    else
      if v4 = 0 then f_Md_knots_59 (f_Md_knots_36 n) σ v1 v2 v3 v4 1 v4 else f_Md_knots_59 (f_Md_knots_36 n) σ v1 v2 v3 v4 0 v4
theorem f_Md_knots_36_s (n : Nat) (σ : Sg) (v1 : Int32) (v2 : Int32) (v3 : Int32) (v4 : Int32) : f_Md_knots_36 (n + 1) σ v1 v2 v3 v4 =
    if 100 ≤ v4 then
      f_Md_knots_69 FU σ v1 v2 v3 0
    else
      if v4 = 0 then f_Md_knots_59 (f_Md_knots_36 n) σ v1 v2 v3 v4 1 v4 else f_Md_knots_59 (f_Md_knots_36 n) σ v1 v2 v3 v4 0 v4 := rfl
set_option maxHeartbeats 4000000 in
theorem j_Md_knots_36 {V : Vx} {X : Xx} {r : Int64} {σ' : Sg}  : ∀ (n : Nat) (σ : Sg) (v1 : Int32) (v2 : Int32) (v3 : Int32) (v4 : Int32), f_Md_knots_36 n σ v1 v2 v3 v4 = some (r, σ') → J V X (k2_rm 5 112) c_Md_knots R_Md 7 (some .long) (Qr V X (some (.long r)) σ') σ 36 [(0, rf V 66), (1, .int v1), (2, .int v2), (3, .int v3), (4, .int v4)] [] := by
  intro n
  induction n with
  | zero => intro σ v1 v2 v3 v4 hf; exact nn hf
  | succ n ih =>
    intro σ v1 v2 v3 v4 hf
    rw [f_Md_knots_36_s] at hf
    refine J_iload (pc' := 38) d_Md_knots_36 rfl 4 rfl ?_
    refine J_bipush (pc' := 40) (v := 100) d_Md_knots_38 rfl bc_100 ?_
    refine J_icmp_ge (pc' := 43) (tgt := 66) d_Md_knots_40 rfl (by decide) (fun hc7 => ?_) (fun hc7 => ?_)
    · have hf := brT hc7 hf
      refine J_iconst (pc' := 67) (v := 0) d_Md_knots_66 rfl ic_0 ?_
      refine J_istore (pc' := 69) (lv' := [(4, .int 0), (0, rf V 66), (1, .int v1), (2, .int v2), (3, .int v3)]) d_Md_knots_67 rfl (by decide) rfl ?_
      refine J_pick [1, 2, 3, 4, 0] rfl ?_
      exact j_Md_knots_69 FU _ _ _ _ _ hf
    · have hf := brF hc7 hf
      refine J_aload_n (pc' := 44) d_Md_knots_43 rfl 0 rfl ?_
      refine J_getR (pc' := 47) d_Md_knots_44 rfl sh_66 fl_Md_64 rfl ?_
      refine J_iload (pc' := 49) d_Md_knots_47 rfl 4 rfl ?_
      refine J_iload (pc' := 51) d_Md_knots_49 rfl 4 rfl ?_
      refine J_if_ne (pc' := 54) (tgt := 58) d_Md_knots_51 rfl (by decide) (fun hc21 => ?_) (fun hc21 => ?_)
      · have hf := brF hc21 hf
        refine J_lconst (pc' := 59) (v := 0) d_Md_knots_58 rfl lc_0 ?_
        exact j_Md_knots_59 ih _ _ _ _ _ _ _ hf
      · have hf := brT hc21 hf
        refine J_lconst (pc' := 55) (v := 1) d_Md_knots_54 rfl lc_1 ?_
        refine J_goto (tgt := 59) d_Md_knots_55 (by decide) ?_
        exact j_Md_knots_59 ih _ _ _ _ _ _ _ hf
def f_Md_knots (σ : Sg) (v1 : Int32) (v2 : Int32) (v3 : Int32) : Option (Int64 × Sg) :=
  bd (f_Md_hasRope σ v1) fun r3 σ2 =>
    if r3 = 0 then
      f_Md_knots_27 σ2
    else
      if (f_Md_isFigure v2) = 0 then f_Md_knots_27 σ2 else if (f_Md_in v3.toInt64 0 99) = 0 then f_Md_knots_27 σ2 else f_Md_knots_36 FU σ2 v1 v2 v3 0
set_option maxHeartbeats 4000000 in
theorem j_Md_knots {V : Vx} {X : Xx} {r : Int64} {σ' : Sg} (σ : Sg) (v1 : Int32) (v2 : Int32) (v3 : Int32) (hf : f_Md_knots σ v1 v2 v3 = some (r, σ')) : J V X (k2_rm 5 112) c_Md_knots R_Md 7 (some .long) (Qr V X (some (.long r)) σ') σ 0 [(0, rf V 66), (1, .int v1), (2, .int v2), (3, .int v3)] [] := by
  unfold f_Md_knots at hf
  refine J_aload_n (pc' := 1) d_Md_knots_0 rfl 0 rfl ?_
  refine J_iload_n (pc' := 2) d_Md_knots_1 rfl 1 rfl ?_
  obtain ⟨r3, σ2, hq1, hf⟩ := bdE hf
  refine J_V (pc' := 5) (as := [.int v1]) (rest := []) (st' := [.int r3]) d_Md_knots_2 rfl sh_66 rfl mv_Md_143 (ct_Md_hasRope V _ σ v1 hq1) rfl rfl ⟨Nat.le_of_ble_eq_true rfl, Nat.le_of_ble_eq_true rfl⟩ ⟨rfl, rfl⟩ (Nat.le_of_ble_eq_true rfl) rfl ?_
  refine J_if_eq (pc' := 8) (tgt := 27) d_Md_knots_5 rfl (by decide) (fun hc4 => ?_) (fun hc4 => ?_)
  · have hf := brT hc4 hf
    refine J_pick [] rfl ?_
    exact j_Md_knots_27 _ hf
  · have hf := brF hc4 hf
    refine J_iload_n (pc' := 9) d_Md_knots_8 rfl 2 rfl ?_
    refine J_S (pc' := 12) (as := [.int v2]) (rest := []) (st' := [.int (f_Md_isFigure v2)]) d_Md_knots_9 rfl ms_Md_189 (ct_Md_isFigure V _ σ2 v2) rfl rfl ⟨Nat.le_of_ble_eq_true rfl, Nat.le_of_ble_eq_true rfl⟩ ⟨rfl, rfl⟩ (Nat.le_of_ble_eq_true rfl) rfl ?_
    refine J_if_eq (pc' := 15) (tgt := 27) d_Md_knots_12 rfl (by decide) (fun hc5 => ?_) (fun hc5 => ?_)
    · have hf := brT hc5 hf
      refine J_pick [] rfl ?_
      exact j_Md_knots_27 _ hf
    · have hf := brF hc5 hf
      refine J_iload_n (pc' := 16) d_Md_knots_15 rfl 3 rfl ?_
      refine J_i2l (pc' := 17) d_Md_knots_16 rfl ?_
      refine J_lconst (pc' := 18) (v := 0) d_Md_knots_17 rfl lc_0 ?_
      refine J_ldc2 (pc' := 21) (v := 99) d_Md_knots_18 rfl cw_Md_198 ?_
      refine J_S (pc' := 24) (as := [.long v3.toInt64, .long 0, .long 99]) (rest := []) (st' := [.int (f_Md_in v3.toInt64 0 99)]) d_Md_knots_21 rfl ms_Md_73 (ct_Md_in V _ σ2 v3.toInt64 0 99) rfl rfl ⟨Nat.le_of_ble_eq_true rfl, Nat.le_of_ble_eq_true rfl⟩ ⟨rfl, rfl⟩ (Nat.le_of_ble_eq_true rfl) rfl ?_
      refine J_if_ne (pc' := 27) (tgt := 33) d_Md_knots_24 rfl (by decide) (fun hc6 => ?_) (fun hc6 => ?_)
      · have hf := brF hc6 hf
        refine J_iconst (pc' := 34) (v := 0) d_Md_knots_33 rfl ic_0 ?_
        refine J_istore (pc' := 36) (lv' := [(4, .int 0), (0, rf V 66), (1, .int v1), (2, .int v2), (3, .int v3)]) d_Md_knots_34 rfl (by decide) rfl ?_
        refine J_pick [1, 2, 3, 4, 0] rfl ?_
        exact j_Md_knots_36 FU _ _ _ _ _ hf
      · have hf := brT hc6 hf
        refine J_pick [] rfl ?_
        exact j_Md_knots_27 _ hf
theorem ct_Md_knots (V : Vx) (l : Launch) (σ : Sg) (v1 : Int32) (v2 : Int32) (v3 : Int32) {r : Int64} {σ' : Sg} (hf : f_Md_knots σ v1 v2 v3 = some (r, σ')) : Ct V l y_Md_knots c_Md_knots 7 (some .long) (k2_rm 5 112) [rf V 66, .int v1, .int v2, .int v3] σ (some (.long r)) σ' := Ct.ofJ (by decide +kernel) (Nat.le_of_ble_eq_true rfl) fun X _ => j_Md_knots _ v1 v2 v3 hf
def f_Md_write_97 (k58 : Sg → Int32 → Int32 → Int32 → Option (Int32 × Sg)) (σ : Sg) (v1 : Int32) (v2 : Int32) (v3 : Int32) (s0 : Int32) (s1 : Int32) (s2 : Int32) : Option (Int32 × Sg) :=
  gd (vin s2 240) (
    k58 (pI σ 69 s2.toNatClampNeg (f_Md_cutTo s1 s0)) v1 v2 (v3 + 1))
set_option maxHeartbeats 4000000 in
theorem j_Md_write_97 {V : Vx} {X : Xx} {r : Int32} {σ' : Sg} {k58 : Sg → Int32 → Int32 → Int32 → Option (Int32 × Sg)} (hk58 : ∀ (σ : Sg) (v1 : Int32) (v2 : Int32) (v3 : Int32), k58 σ v1 v2 v3 = some (r, σ') → J V X (k2_rm 7 159) c_Md_write R_Md 4 (some .int) (Qr V X (some (.int r)) σ') σ 58 [(0, rf V 66), (1, .int v1), (2, .int v2), (3, .int v3)] []) (σ : Sg) (v1 : Int32) (v2 : Int32) (v3 : Int32) (s0 : Int32) (s1 : Int32) (s2 : Int32) (hf : f_Md_write_97 k58 σ v1 v2 v3 s0 s1 s2 = some (r, σ')) : J V X (k2_rm 7 159) c_Md_write R_Md 4 (some .int) (Qr V X (some (.int r)) σ') σ 97 [(0, rf V 66), (1, .int v1), (2, .int v2), (3, .int v3)] [.int s0, .int s1, .int s2, rf V 69] := by
  unfold f_Md_write_97 at hf
  refine J_S (pc' := 100) (as := [.int s1, .int s0]) (rest := [.int s2, rf V 69]) (st' := [.int (f_Md_cutTo s1 s0), .int s2, rf V 69]) d_Md_write_97 rfl ms_Md_101 (ct_Md_cutTo V _ σ s1 s0) rfl rfl ⟨Nat.le_of_ble_eq_true rfl, Nat.le_of_ble_eq_true rfl⟩ ⟨rfl, rfl⟩ (Nat.le_of_ble_eq_true rfl) rfl ?_
  obtain ⟨hg13, hf⟩ := gdE hf
  refine J_ias (pc' := 101) d_Md_write_100 rfl sh_69 (vinP hg13) ?_
  refine J_iinc (pc' := 104) (j := 3) (v := 1) (lv' := [(3, .int (v3 + 1)), (0, rf V 66), (1, .int v1), (2, .int v2)]) d_Md_write_101 rfl rfl ic_1 (by decide) rfl ?_
  refine J_goto (tgt := 58) d_Md_write_104 (by decide) ?_
  refine J_pick [1, 2, 3, 0] rfl ?_
  exact hk58 _ _ _ _ hf
def f_Md_write_58 : Nat → Sg → Int32 → Int32 → Int32 → Option (Int32 × Sg)
  | 0, _, _, _, _ => none
  | n + 1, σ, v1, v2, v3 =>
    if v2 ≤ v3 then
      some (v2, σ)
    else
      gd (vin v1 4) (
        (f_Md_counts σ v3).bind fun r11 =>
          if r11 = 0 then
            f_Md_write_97 (f_Md_write_58 n) σ v1 v2 v3 (-1) (σ.1 67 v1.toNatClampNeg) ((60 * v1) + v3)
          else
            gd (vin v3 20) (
              f_Md_write_97 (f_Md_write_58 n) σ v1 v2 v3 (σ.1 77 v3.toNatClampNeg) (σ.1 67 v1.toNatClampNeg) ((60 * v1) + v3)))
theorem f_Md_write_58_s (n : Nat) (σ : Sg) (v1 : Int32) (v2 : Int32) (v3 : Int32) : f_Md_write_58 (n + 1) σ v1 v2 v3 =
    if v2 ≤ v3 then
      some (v2, σ)
    else
      gd (vin v1 4) (
        (f_Md_counts σ v3).bind fun r11 =>
          if r11 = 0 then
            f_Md_write_97 (f_Md_write_58 n) σ v1 v2 v3 (-1) (σ.1 67 v1.toNatClampNeg) ((60 * v1) + v3)
          else
            gd (vin v3 20) (
              f_Md_write_97 (f_Md_write_58 n) σ v1 v2 v3 (σ.1 77 v3.toNatClampNeg) (σ.1 67 v1.toNatClampNeg) ((60 * v1) + v3))) := rfl
set_option maxHeartbeats 4000000 in
theorem j_Md_write_58 {V : Vx} {X : Xx} {r : Int32} {σ' : Sg}  : ∀ (n : Nat) (σ : Sg) (v1 : Int32) (v2 : Int32) (v3 : Int32), f_Md_write_58 n σ v1 v2 v3 = some (r, σ') → J V X (k2_rm 7 159) c_Md_write R_Md 4 (some .int) (Qr V X (some (.int r)) σ') σ 58 [(0, rf V 66), (1, .int v1), (2, .int v2), (3, .int v3)] [] := by
  intro n
  induction n with
  | zero => intro σ v1 v2 v3 hf; exact nn hf
  | succ n ih =>
    intro σ v1 v2 v3 hf
    rw [f_Md_write_58_s] at hf
    refine J_iload_n (pc' := 59) d_Md_write_58 rfl 3 rfl ?_
    refine J_iload_n (pc' := 60) d_Md_write_59 rfl 2 rfl ?_
    refine J_icmp_ge (pc' := 63) (tgt := 107) d_Md_write_60 rfl (by decide) (fun hc8 => ?_) (fun hc8 => ?_)
    · have hf := brT hc8 hf
      refine J_iload_n (pc' := 108) d_Md_write_107 rfl 2 rfl ?_
      obtain ⟨rfl, rfl⟩ := resE hf
      exact J_iret d_Md_write_108
    · have hf := brF hc8 hf
      refine J_aload_n (pc' := 64) d_Md_write_63 rfl 0 rfl ?_
      refine J_getR (pc' := 67) d_Md_write_64 rfl sh_66 fl_Md_16 rfl ?_
      refine J_bipush (pc' := 69) (v := 60) d_Md_write_67 rfl bc_60 ?_
      refine J_iload_n (pc' := 70) d_Md_write_69 rfl 1 rfl ?_
      refine J_imul (pc' := 71) d_Md_write_70 rfl ?_
      refine J_iload_n (pc' := 72) d_Md_write_71 rfl 3 rfl ?_
      refine J_iadd (pc' := 73) d_Md_write_72 rfl ?_
      refine J_aload_n (pc' := 74) d_Md_write_73 rfl 0 rfl ?_
      refine J_getR (pc' := 77) d_Md_write_74 rfl sh_66 fl_Md_7 rfl ?_
      refine J_iload_n (pc' := 78) d_Md_write_77 rfl 1 rfl ?_
      obtain ⟨hg9, hf⟩ := gdE hf
      refine J_ial (pc' := 79) d_Md_write_78 rfl sh_67 (vinP hg9) ?_
      refine J_aload_n (pc' := 80) d_Md_write_79 rfl 0 rfl ?_
      refine J_iload_n (pc' := 81) d_Md_write_80 rfl 3 rfl ?_
      obtain ⟨r11, hq10, hf⟩ := bpE hf
      refine J_V (pc' := 84) (as := [.int v3]) (rest := [.int (σ.1 67 v1.toNatClampNeg), .int ((60 * v1) + v3), rf V 69]) (st' := [.int r11, .int (σ.1 67 v1.toNatClampNeg), .int ((60 * v1) + v3), rf V 69]) d_Md_write_81 rfl sh_66 rfl mv_Md_219 (ct_Md_counts V _ σ v3 hq10) rfl rfl ⟨Nat.le_of_ble_eq_true rfl, Nat.le_of_ble_eq_true rfl⟩ ⟨rfl, rfl⟩ (Nat.le_of_ble_eq_true rfl) rfl ?_
      refine J_if_eq (pc' := 87) (tgt := 96) d_Md_write_84 rfl (by decide) (fun hc12 => ?_) (fun hc12 => ?_)
      · have hf := brT hc12 hf
        refine J_iconst (pc' := 97) (v := (-1)) d_Md_write_96 rfl ic_m1 ?_
        exact j_Md_write_97 ih _ _ _ _ _ _ _ hf
      · have hf := brF hc12 hf
        refine J_aload_n (pc' := 88) d_Md_write_87 rfl 0 rfl ?_
        refine J_getR (pc' := 91) d_Md_write_88 rfl sh_66 fl_Md_40 rfl ?_
        refine J_iload_n (pc' := 92) d_Md_write_91 rfl 3 rfl ?_
        obtain ⟨hg14, hf⟩ := gdE hf
        refine J_ial (pc' := 93) d_Md_write_92 rfl sh_77 (vinP hg14) ?_
        refine J_goto (tgt := 97) d_Md_write_93 (by decide) ?_
        exact j_Md_write_97 ih _ _ _ _ _ _ _ hf
def f_Md_write_55 (σ : Sg) (v1 : Int32) (s0 : Int32) : Option (Int32 × Sg) :=
  f_Md_write_58 FU σ v1 s0 0
set_option maxHeartbeats 4000000 in
theorem j_Md_write_55 {V : Vx} {X : Xx} {r : Int32} {σ' : Sg}  (σ : Sg) (v1 : Int32) (s0 : Int32) (hf : f_Md_write_55 σ v1 s0 = some (r, σ')) : J V X (k2_rm 7 159) c_Md_write R_Md 4 (some .int) (Qr V X (some (.int r)) σ') σ 55 [(0, rf V 66), (1, .int v1)] [.int s0] := by
  unfold f_Md_write_55 at hf
  refine J_istore_n (pc' := 56) (lv' := [(2, .int s0), (0, rf V 66), (1, .int v1)]) d_Md_write_55 rfl rfl (by decide) rfl ?_
  refine J_iconst (pc' := 57) (v := 0) d_Md_write_56 rfl ic_0 ?_
  refine J_istore_n (pc' := 58) (lv' := [(3, .int 0), (2, .int s0), (0, rf V 66), (1, .int v1)]) d_Md_write_57 rfl rfl (by decide) rfl ?_
  refine J_pick [2, 3, 1, 0] rfl ?_
  exact j_Md_write_58 FU _ _ _ _ hf
def f_Md_write (σ : Sg) (v1 : Int32) : Option (Int32 × Sg) :=
  if (f_Md_isSheet v1) = 0 then
    some ((-2), σ)
  else
    gd (vin v1 4) (
      if 0 ≤ (σ.1 67 v1.toNatClampNeg) then
        (f_Md_findPutOff σ).bind fun σ5 =>
          gd (vin v1 4) (
            if (σ5.1 66 14) ≤ (σ5.1 68 v1.toNatClampNeg) then
              f_Md_write_55 σ5 v1 (σ5.1 66 14)
            else
              gd (vin v1 4) (
                f_Md_write_55 σ5 v1 (σ5.1 68 v1.toNatClampNeg)))
      else
        bd (f_Md_met σ 1) fun r18 σ17 =>
          some (r18, σ17))
set_option maxHeartbeats 4000000 in
theorem j_Md_write {V : Vx} {X : Xx} {r : Int32} {σ' : Sg} (σ : Sg) (v1 : Int32) (hf : f_Md_write σ v1 = some (r, σ')) : J V X (k2_rm 7 159) c_Md_write R_Md 4 (some .int) (Qr V X (some (.int r)) σ') σ 0 [(0, rf V 66), (1, .int v1)] [] := by
  unfold f_Md_write at hf
  refine J_iload_n (pc' := 1) d_Md_write_0 rfl 1 rfl ?_
  refine J_S (pc' := 4) (as := [.int v1]) (rest := []) (st' := [.int (f_Md_isSheet v1)]) d_Md_write_1 rfl ms_Md_87 (ct_Md_isSheet V _ σ v1) rfl rfl ⟨Nat.le_of_ble_eq_true rfl, Nat.le_of_ble_eq_true rfl⟩ ⟨rfl, rfl⟩ (Nat.le_of_ble_eq_true rfl) rfl ?_
  refine J_if_ne (pc' := 7) (tgt := 10) d_Md_write_4 rfl (by decide) (fun hc1 => ?_) (fun hc1 => ?_)
  · have hf := brF hc1 hf
    refine J_aload_n (pc' := 11) d_Md_write_10 rfl 0 rfl ?_
    refine J_getR (pc' := 14) d_Md_write_11 rfl sh_66 fl_Md_7 rfl ?_
    refine J_iload_n (pc' := 15) d_Md_write_14 rfl 1 rfl ?_
    obtain ⟨hg2, hf⟩ := gdE hf
    refine J_ial (pc' := 16) d_Md_write_15 rfl sh_67 (vinP hg2) ?_
    refine J_if_ge (pc' := 19) (tgt := 25) d_Md_write_16 rfl (by decide) (fun hc3 => ?_) (fun hc3 => ?_)
    · have hf := brT hc3 hf
      refine J_aload_n (pc' := 26) d_Md_write_25 rfl 0 rfl ?_
      obtain ⟨σ5, hq4, hf⟩ := bpE hf
      refine J_V (pc' := 29) (as := []) (rest := []) (st' := []) d_Md_write_26 rfl sh_66 rfl mv_Md_243 (ct_Md_findPutOff V _ σ hq4) rfl rfl ⟨Nat.le_of_ble_eq_true rfl, Nat.le_of_ble_eq_true rfl⟩ ⟨rfl, rfl⟩ (Nat.le_of_ble_eq_true rfl) rfl ?_
      refine J_aload_n (pc' := 30) d_Md_write_29 rfl 0 rfl ?_
      refine J_getR (pc' := 33) d_Md_write_30 rfl sh_66 fl_Md_13 rfl ?_
      refine J_iload_n (pc' := 34) d_Md_write_33 rfl 1 rfl ?_
      obtain ⟨hg6, hf⟩ := gdE hf
      refine J_ial (pc' := 35) d_Md_write_34 rfl sh_68 (vinP hg6) ?_
      refine J_aload_n (pc' := 36) d_Md_write_35 rfl 0 rfl ?_
      refine J_getI (pc' := 39) d_Md_write_36 rfl sh_66 fl_Md_209 rfl ?_
      refine J_icmp_ge (pc' := 42) (tgt := 51) d_Md_write_39 rfl (by decide) (fun hc7 => ?_) (fun hc7 => ?_)
      · have hf := brT hc7 hf
        refine J_aload_n (pc' := 52) d_Md_write_51 rfl 0 rfl ?_
        refine J_getI (pc' := 55) d_Md_write_52 rfl sh_66 fl_Md_209 rfl ?_
        exact j_Md_write_55 _ _ _ hf
      · have hf := brF hc7 hf
        refine J_aload_n (pc' := 43) d_Md_write_42 rfl 0 rfl ?_
        refine J_getR (pc' := 46) d_Md_write_43 rfl sh_66 fl_Md_13 rfl ?_
        refine J_iload_n (pc' := 47) d_Md_write_46 rfl 1 rfl ?_
        obtain ⟨hg15, hf⟩ := gdE hf
        refine J_ial (pc' := 48) d_Md_write_47 rfl sh_68 (vinP hg15) ?_
        refine J_goto (tgt := 55) d_Md_write_48 (by decide) ?_
        exact j_Md_write_55 _ _ _ hf
    · have hf := brF hc3 hf
      refine J_aload_n (pc' := 20) d_Md_write_19 rfl 0 rfl ?_
      refine J_iconst (pc' := 21) (v := 1) d_Md_write_20 rfl ic_1 ?_
      obtain ⟨r18, σ17, hq16, hf⟩ := bdE hf
      refine J_V (pc' := 24) (as := [.int 1]) (rest := []) (st' := [.int r18]) d_Md_write_21 rfl sh_66 rfl mv_Md_93 (ct_Md_met V _ σ 1 hq16) rfl rfl ⟨Nat.le_of_ble_eq_true rfl, Nat.le_of_ble_eq_true rfl⟩ ⟨rfl, rfl⟩ (Nat.le_of_ble_eq_true rfl) rfl ?_
      obtain ⟨rfl, rfl⟩ := resE hf
      exact J_iret d_Md_write_24
  · have hf := brT hc1 hf
    refine J_bipush (pc' := 9) (v := (-2)) d_Md_write_7 rfl bc_m2 ?_
    obtain ⟨rfl, rfl⟩ := resE hf
    exact J_iret d_Md_write_9
theorem ct_Md_write (V : Vx) (l : Launch) (σ : Sg) (v1 : Int32) {r : Int32} {σ' : Sg} (hf : f_Md_write σ v1 = some (r, σ')) : Ct V l y_Md_write c_Md_write 4 (some .int) (k2_rm 7 159) [rf V 66, .int v1] σ (some (.int r)) σ' := Ct.ofJ (by decide +kernel) (Nat.le_of_ble_eq_true rfl) fun X _ => j_Md_write _ v1 hf
