theorem d_GR_digest_0 : decode c_GR_digest 0 = .ok (.ldc2_w 307, 3) := by decide +kernel
theorem d_GR_digest_3 : decode c_GR_digest 3 = .ok (.lstore_n 1, 1) := by decide +kernel
theorem d_GR_digest_4 : decode c_GR_digest 4 = .ok (.iconst 0, 1) := by decide +kernel
theorem d_GR_digest_5 : decode c_GR_digest 5 = .ok (.istore_n 3, 1) := by decide +kernel
theorem d_GR_digest_6 : decode c_GR_digest 6 = .ok (.iload_n 3, 1) := by decide +kernel
theorem d_GR_digest_7 : decode c_GR_digest 7 = .ok (.bipush 8, 2) := by decide +kernel
theorem d_GR_digest_9 : decode c_GR_digest 9 = .ok (.if_icmp .ge 20, 3) := by decide +kernel
theorem d_GR_digest_12 : decode c_GR_digest 12 = .ok (.lload_n 1, 1) := by decide +kernel
theorem d_GR_digest_13 : decode c_GR_digest 13 = .ok (.aload_n 0, 1) := by decide +kernel
theorem d_GR_digest_14 : decode c_GR_digest 14 = .ok (.iload_n 3, 1) := by decide +kernel
theorem d_GR_digest_15 : decode c_GR_digest 15 = .ok (.invokevirtual 309, 3) := by decide +kernel
theorem d_GR_digest_18 : decode c_GR_digest 18 = .ok (.i2l, 1) := by decide +kernel
theorem d_GR_digest_19 : decode c_GR_digest 19 = .ok (.invokestatic 312, 3) := by decide +kernel
theorem d_GR_digest_22 : decode c_GR_digest 22 = .ok (.lstore_n 1, 1) := by decide +kernel
theorem d_GR_digest_23 : decode c_GR_digest 23 = .ok (.iinc 3 1, 3) := by decide +kernel
theorem d_GR_digest_26 : decode c_GR_digest 26 = .ok (.goto (-20), 3) := by decide +kernel
theorem d_GR_digest_29 : decode c_GR_digest 29 = .ok (.lload_n 1, 1) := by decide +kernel
theorem d_GR_digest_30 : decode c_GR_digest 30 = .ok (.aload_n 0, 1) := by decide +kernel
theorem d_GR_digest_31 : decode c_GR_digest 31 = .ok (.getfield 24, 3) := by decide +kernel
theorem d_GR_digest_34 : decode c_GR_digest 34 = .ok (.getfield 94, 3) := by decide +kernel
theorem d_GR_digest_37 : decode c_GR_digest 37 = .ok (.i2l, 1) := by decide +kernel
theorem d_GR_digest_38 : decode c_GR_digest 38 = .ok (.invokestatic 312, 3) := by decide +kernel
theorem d_GR_digest_41 : decode c_GR_digest 41 = .ok (.lstore_n 1, 1) := by decide +kernel
theorem d_GR_digest_42 : decode c_GR_digest 42 = .ok (.lload_n 1, 1) := by decide +kernel
theorem d_GR_digest_43 : decode c_GR_digest 43 = .ok (.aload_n 0, 1) := by decide +kernel
theorem d_GR_digest_44 : decode c_GR_digest 44 = .ok (.getfield 24, 3) := by decide +kernel
theorem d_GR_digest_47 : decode c_GR_digest 47 = .ok (.getfield 97, 3) := by decide +kernel
theorem d_GR_digest_50 : decode c_GR_digest 50 = .ok (.i2l, 1) := by decide +kernel
theorem d_GR_digest_51 : decode c_GR_digest 51 = .ok (.invokestatic 312, 3) := by decide +kernel
theorem d_GR_digest_54 : decode c_GR_digest 54 = .ok (.lstore_n 1, 1) := by decide +kernel
theorem d_GR_digest_55 : decode c_GR_digest 55 = .ok (.iconst 0, 1) := by decide +kernel
theorem d_GR_digest_56 : decode c_GR_digest 56 = .ok (.istore_n 3, 1) := by decide +kernel
theorem d_GR_digest_57 : decode c_GR_digest 57 = .ok (.iload_n 3, 1) := by decide +kernel
theorem d_GR_digest_58 : decode c_GR_digest 58 = .ok (.aload_n 0, 1) := by decide +kernel
theorem d_GR_digest_59 : decode c_GR_digest 59 = .ok (.getfield 24, 3) := by decide +kernel
theorem d_GR_digest_62 : decode c_GR_digest 62 = .ok (.getfield 245, 3) := by decide +kernel
theorem d_GR_digest_65 : decode c_GR_digest 65 = .ok (.if_icmp .ge 16, 3) := by decide +kernel
theorem d_GR_digest_68 : decode c_GR_digest 68 = .ok (.aload_n 0, 1) := by decide +kernel
theorem d_GR_digest_69 : decode c_GR_digest 69 = .ok (.lload_n 1, 1) := by decide +kernel
theorem d_GR_digest_70 : decode c_GR_digest 70 = .ok (.iload_n 3, 1) := by decide +kernel
theorem d_GR_digest_71 : decode c_GR_digest 71 = .ok (.invokevirtual 316, 3) := by decide +kernel
theorem d_GR_digest_74 : decode c_GR_digest 74 = .ok (.lstore_n 1, 1) := by decide +kernel
theorem d_GR_digest_75 : decode c_GR_digest 75 = .ok (.iinc 3 1, 3) := by decide +kernel
theorem d_GR_digest_78 : decode c_GR_digest 78 = .ok (.goto (-21), 3) := by decide +kernel
theorem d_GR_digest_81 : decode c_GR_digest 81 = .ok (.aload_n 0, 1) := by decide +kernel
theorem d_GR_digest_82 : decode c_GR_digest 82 = .ok (.getfield 42, 3) := by decide +kernel
theorem d_GR_digest_85 : decode c_GR_digest 85 = .ok (.aload_n 0, 1) := by decide +kernel
theorem d_GR_digest_86 : decode c_GR_digest 86 = .ok (.getfield 24, 3) := by decide +kernel
theorem d_GR_digest_89 : decode c_GR_digest 89 = .ok (.aload_n 0, 1) := by decide +kernel
theorem d_GR_digest_90 : decode c_GR_digest 90 = .ok (.getfield 35, 3) := by decide +kernel
theorem d_GR_digest_93 : decode c_GR_digest 93 = .ok (.aload_n 0, 1) := by decide +kernel
theorem d_GR_digest_94 : decode c_GR_digest 94 = .ok (.getfield 28, 3) := by decide +kernel
theorem d_GR_digest_97 : decode c_GR_digest 97 = .ok (.iconst 0, 1) := by decide +kernel
theorem d_GR_digest_98 : decode c_GR_digest 98 = .ok (.iaload, 1) := by decide +kernel
theorem d_GR_digest_99 : decode c_GR_digest 99 = .ok (.invokevirtual 191, 3) := by decide +kernel
theorem d_GR_digest_102 : decode c_GR_digest 102 = .ok (.iconst 0, 1) := by decide +kernel
theorem d_GR_digest_103 : decode c_GR_digest 103 = .ok (.istore_n 3, 1) := by decide +kernel
theorem d_GR_digest_104 : decode c_GR_digest 104 = .ok (.iload_n 3, 1) := by decide +kernel
theorem d_GR_digest_105 : decode c_GR_digest 105 = .ok (.aload_n 0, 1) := by decide +kernel
theorem d_GR_digest_106 : decode c_GR_digest 106 = .ok (.getfield 35, 3) := by decide +kernel
theorem d_GR_digest_109 : decode c_GR_digest 109 = .ok (.getfield 154, 3) := by decide +kernel
theorem d_GR_digest_112 : decode c_GR_digest 112 = .ok (.if_icmp .ge 23, 3) := by decide +kernel
theorem d_GR_digest_115 : decode c_GR_digest 115 = .ok (.lload_n 1, 1) := by decide +kernel
theorem d_GR_digest_116 : decode c_GR_digest 116 = .ok (.aload_n 0, 1) := by decide +kernel
theorem d_GR_digest_117 : decode c_GR_digest 117 = .ok (.getfield 42, 3) := by decide +kernel
theorem d_GR_digest_120 : decode c_GR_digest 120 = .ok (.iload_n 3, 1) := by decide +kernel
theorem d_GR_digest_121 : decode c_GR_digest 121 = .ok (.invokevirtual 195, 3) := by decide +kernel
theorem d_GR_digest_124 : decode c_GR_digest 124 = .ok (.i2l, 1) := by decide +kernel
theorem d_GR_digest_125 : decode c_GR_digest 125 = .ok (.invokestatic 312, 3) := by decide +kernel
theorem d_GR_digest_128 : decode c_GR_digest 128 = .ok (.lstore_n 1, 1) := by decide +kernel
theorem d_GR_digest_129 : decode c_GR_digest 129 = .ok (.iinc 3 1, 3) := by decide +kernel
theorem d_GR_digest_132 : decode c_GR_digest 132 = .ok (.goto (-28), 3) := by decide +kernel
theorem d_GR_digest_135 : decode c_GR_digest 135 = .ok (.lload_n 1, 1) := by decide +kernel
theorem d_GR_digest_136 : decode c_GR_digest 136 = .ok (.aload_n 0, 1) := by decide +kernel
theorem d_GR_digest_137 : decode c_GR_digest 137 = .ok (.invokevirtual 320, 3) := by decide +kernel
theorem d_GR_digest_140 : decode c_GR_digest 140 = .ok (.i2l, 1) := by decide +kernel
theorem d_GR_digest_141 : decode c_GR_digest 141 = .ok (.invokestatic 312, 3) := by decide +kernel
theorem d_GR_digest_144 : decode c_GR_digest 144 = .ok (.lstore_n 1, 1) := by decide +kernel
theorem d_GR_digest_145 : decode c_GR_digest 145 = .ok (.lload_n 1, 1) := by decide +kernel
theorem d_GR_digest_146 : decode c_GR_digest 146 = .ok (.aload_n 0, 1) := by decide +kernel
theorem d_GR_digest_147 : decode c_GR_digest 147 = .ok (.invokevirtual 323, 3) := by decide +kernel
theorem d_GR_digest_150 : decode c_GR_digest 150 = .ok (.i2l, 1) := by decide +kernel
theorem d_GR_digest_151 : decode c_GR_digest 151 = .ok (.invokestatic 312, 3) := by decide +kernel
theorem d_GR_digest_154 : decode c_GR_digest 154 = .ok (.lstore_n 1, 1) := by decide +kernel
theorem d_GR_digest_155 : decode c_GR_digest 155 = .ok (.lload_n 1, 1) := by decide +kernel
theorem d_GR_digest_156 : decode c_GR_digest 156 = .ok (.aload_n 0, 1) := by decide +kernel
theorem d_GR_digest_157 : decode c_GR_digest 157 = .ok (.bipush 7, 2) := by decide +kernel
theorem d_GR_digest_159 : decode c_GR_digest 159 = .ok (.invokevirtual 326, 3) := by decide +kernel
theorem d_GR_digest_162 : decode c_GR_digest 162 = .ok (.i2l, 1) := by decide +kernel
theorem d_GR_digest_163 : decode c_GR_digest 163 = .ok (.invokestatic 312, 3) := by decide +kernel
theorem d_GR_digest_166 : decode c_GR_digest 166 = .ok (.lstore_n 1, 1) := by decide +kernel
theorem d_GR_digest_167 : decode c_GR_digest 167 = .ok (.aload_n 0, 1) := by decide +kernel
theorem d_GR_digest_168 : decode c_GR_digest 168 = .ok (.lload_n 1, 1) := by decide +kernel
theorem d_GR_digest_169 : decode c_GR_digest 169 = .ok (.invokevirtual 329, 3) := by decide +kernel
theorem d_GR_digest_172 : decode c_GR_digest 172 = .ok (.lstore_n 1, 1) := by decide +kernel
theorem d_GR_digest_173 : decode c_GR_digest 173 = .ok (.iconst 0, 1) := by decide +kernel
theorem d_GR_digest_174 : decode c_GR_digest 174 = .ok (.istore_n 3, 1) := by decide +kernel
theorem d_GR_digest_175 : decode c_GR_digest 175 = .ok (.iload_n 3, 1) := by decide +kernel
theorem d_GR_digest_176 : decode c_GR_digest 176 = .ok (.iconst 5, 1) := by decide +kernel
theorem d_GR_digest_177 : decode c_GR_digest 177 = .ok (.if_icmp .ge 31, 3) := by decide +kernel
theorem d_GR_digest_180 : decode c_GR_digest 180 = .ok (.lload_n 1, 1) := by decide +kernel
theorem d_GR_digest_181 : decode c_GR_digest 181 = .ok (.aload_n 0, 1) := by decide +kernel
theorem d_GR_digest_182 : decode c_GR_digest 182 = .ok (.getfield 56, 3) := by decide +kernel
theorem d_GR_digest_185 : decode c_GR_digest 185 = .ok (.aload_n 0, 1) := by decide +kernel
theorem d_GR_digest_186 : decode c_GR_digest 186 = .ok (.getfield 24, 3) := by decide +kernel
theorem d_GR_digest_189 : decode c_GR_digest 189 = .ok (.aload_n 0, 1) := by decide +kernel
theorem d_GR_digest_190 : decode c_GR_digest 190 = .ok (.getfield 35, 3) := by decide +kernel
theorem d_GR_digest_193 : decode c_GR_digest 193 = .ok (.iload_n 3, 1) := by decide +kernel
theorem d_GR_digest_194 : decode c_GR_digest 194 = .ok (.invokevirtual 253, 3) := by decide +kernel
theorem d_GR_digest_197 : decode c_GR_digest 197 = .ok (.i2l, 1) := by decide +kernel
theorem d_GR_digest_198 : decode c_GR_digest 198 = .ok (.invokestatic 312, 3) := by decide +kernel
theorem d_GR_digest_201 : decode c_GR_digest 201 = .ok (.lstore_n 1, 1) := by decide +kernel
theorem d_GR_digest_202 : decode c_GR_digest 202 = .ok (.iinc 3 1, 3) := by decide +kernel
theorem d_GR_digest_205 : decode c_GR_digest 205 = .ok (.goto (-30), 3) := by decide +kernel
theorem d_GR_digest_208 : decode c_GR_digest 208 = .ok (.lload_n 1, 1) := by decide +kernel
theorem d_GR_digest_209 : decode c_GR_digest 209 = .ok (.aload_n 0, 1) := by decide +kernel
theorem d_GR_digest_210 : decode c_GR_digest 210 = .ok (.invokevirtual 333, 3) := by decide +kernel
theorem d_GR_digest_213 : decode c_GR_digest 213 = .ok (.i2l, 1) := by decide +kernel
theorem d_GR_digest_214 : decode c_GR_digest 214 = .ok (.invokestatic 312, 3) := by decide +kernel
theorem d_GR_digest_217 : decode c_GR_digest 217 = .ok (.lreturn, 1) := by decide +kernel
theorem d_Md_in_0 : decode c_Md_in 0 = .ok (.lload_n 0, 1) := by decide +kernel
theorem d_Md_in_1 : decode c_Md_in 1 = .ok (.lload_n 2, 1) := by decide +kernel
theorem d_Md_in_2 : decode c_Md_in 2 = .ok (.lcmp, 1) := by decide +kernel
theorem d_Md_in_3 : decode c_Md_in 3 = .ok (.ifCond .lt 14, 3) := by decide +kernel
theorem d_Md_in_6 : decode c_Md_in 6 = .ok (.lload_n 0, 1) := by decide +kernel
theorem d_Md_in_7 : decode c_Md_in 7 = .ok (.lload 4, 2) := by decide +kernel
theorem d_Md_in_9 : decode c_Md_in 9 = .ok (.lcmp, 1) := by decide +kernel
theorem d_Md_in_10 : decode c_Md_in 10 = .ok (.ifCond .gt 7, 3) := by decide +kernel
theorem d_Md_in_13 : decode c_Md_in 13 = .ok (.iconst 1, 1) := by decide +kernel
theorem d_Md_in_14 : decode c_Md_in 14 = .ok (.goto 4, 3) := by decide +kernel
theorem d_Md_in_17 : decode c_Md_in 17 = .ok (.iconst 0, 1) := by decide +kernel
theorem d_Md_in_18 : decode c_Md_in 18 = .ok (.ireturn, 1) := by decide +kernel
theorem d_Md_isSheet_0 : decode c_Md_isSheet 0 = .ok (.iload_n 0, 1) := by decide +kernel
theorem d_Md_isSheet_1 : decode c_Md_isSheet 1 = .ok (.i2l, 1) := by decide +kernel
theorem d_Md_isSheet_2 : decode c_Md_isSheet 2 = .ok (.lconst 0, 1) := by decide +kernel
theorem d_Md_isSheet_3 : decode c_Md_isSheet 3 = .ok (.ldc2_w 85, 3) := by decide +kernel
theorem d_Md_isSheet_6 : decode c_Md_isSheet 6 = .ok (.invokestatic 73, 3) := by decide +kernel
theorem d_Md_isSheet_9 : decode c_Md_isSheet 9 = .ok (.ireturn, 1) := by decide +kernel
theorem d_Md_met_0 : decode c_Md_met 0 = .ok (.aload_n 0, 1) := by decide +kernel
theorem d_Md_met_1 : decode c_Md_met 1 = .ok (.iload_n 1, 1) := by decide +kernel
theorem d_Md_met_2 : decode c_Md_met 2 = .ok (.putfield 81, 3) := by decide +kernel
theorem d_Md_met_5 : decode c_Md_met 5 = .ok (.bipush (-10), 2) := by decide +kernel
theorem d_Md_met_7 : decode c_Md_met 7 = .ok (.iload_n 1, 1) := by decide +kernel
theorem d_Md_met_8 : decode c_Md_met 8 = .ok (.isub, 1) := by decide +kernel
theorem d_Md_met_9 : decode c_Md_met 9 = .ok (.ireturn, 1) := by decide +kernel
theorem d_Md_sheet_0 : decode c_Md_sheet 0 = .ok (.iload_n 1, 1) := by decide +kernel
theorem d_Md_sheet_1 : decode c_Md_sheet 1 = .ok (.invokestatic 87, 3) := by decide +kernel
theorem d_Md_sheet_4 : decode c_Md_sheet 4 = .ok (.ifCond .eq 21, 3) := by decide +kernel
theorem d_Md_sheet_7 : decode c_Md_sheet 7 = .ok (.iload_n 2, 1) := by decide +kernel
theorem d_Md_sheet_8 : decode c_Md_sheet 8 = .ok (.i2l, 1) := by decide +kernel
theorem d_Md_sheet_9 : decode c_Md_sheet 9 = .ok (.lconst 0, 1) := by decide +kernel
theorem d_Md_sheet_10 : decode c_Md_sheet 10 = .ok (.ldc2_w 91, 3) := by decide +kernel
theorem d_Md_sheet_13 : decode c_Md_sheet 13 = .ok (.invokestatic 73, 3) := by decide +kernel
theorem d_Md_sheet_16 : decode c_Md_sheet 16 = .ok (.ifCond .eq 9, 3) := by decide +kernel
theorem d_Md_sheet_19 : decode c_Md_sheet 19 = .ok (.iload_n 3, 1) := by decide +kernel
theorem d_Md_sheet_20 : decode c_Md_sheet 20 = .ok (.bipush 60, 2) := by decide +kernel
theorem d_Md_sheet_22 : decode c_Md_sheet 22 = .ok (.if_icmp .le 6, 3) := by decide +kernel
theorem d_Md_sheet_25 : decode c_Md_sheet 25 = .ok (.bipush (-2), 2) := by decide +kernel
theorem d_Md_sheet_27 : decode c_Md_sheet 27 = .ok (.ireturn, 1) := by decide +kernel
theorem d_Md_sheet_28 : decode c_Md_sheet 28 = .ok (.iload_n 3, 1) := by decide +kernel
theorem d_Md_sheet_29 : decode c_Md_sheet 29 = .ok (.ifCond .ge 9, 3) := by decide +kernel
theorem d_Md_sheet_32 : decode c_Md_sheet 32 = .ok (.aload_n 0, 1) := by decide +kernel
theorem d_Md_sheet_33 : decode c_Md_sheet 33 = .ok (.iconst 5, 1) := by decide +kernel
theorem d_Md_sheet_34 : decode c_Md_sheet 34 = .ok (.invokevirtual 93, 3) := by decide +kernel
theorem d_Md_sheet_37 : decode c_Md_sheet 37 = .ok (.ireturn, 1) := by decide +kernel
theorem d_Md_sheet_38 : decode c_Md_sheet 38 = .ok (.aload_n 0, 1) := by decide +kernel
theorem d_Md_sheet_39 : decode c_Md_sheet 39 = .ok (.getfield 7, 3) := by decide +kernel
theorem d_Md_sheet_42 : decode c_Md_sheet 42 = .ok (.iload_n 1, 1) := by decide +kernel
theorem d_Md_sheet_43 : decode c_Md_sheet 43 = .ok (.iload_n 2, 1) := by decide +kernel
theorem d_Md_sheet_44 : decode c_Md_sheet 44 = .ok (.iastore, 1) := by decide +kernel
theorem d_Md_sheet_45 : decode c_Md_sheet 45 = .ok (.aload_n 0, 1) := by decide +kernel
theorem d_Md_sheet_46 : decode c_Md_sheet 46 = .ok (.getfield 13, 3) := by decide +kernel
theorem d_Md_sheet_49 : decode c_Md_sheet 49 = .ok (.iload_n 1, 1) := by decide +kernel
theorem d_Md_sheet_50 : decode c_Md_sheet 50 = .ok (.iload_n 3, 1) := by decide +kernel
theorem d_Md_sheet_51 : decode c_Md_sheet 51 = .ok (.iastore, 1) := by decide +kernel
theorem d_Md_sheet_52 : decode c_Md_sheet 52 = .ok (.iconst 0, 1) := by decide +kernel
theorem d_Md_sheet_53 : decode c_Md_sheet 53 = .ok (.istore 4, 2) := by decide +kernel
theorem d_Md_sheet_55 : decode c_Md_sheet 55 = .ok (.iload 4, 2) := by decide +kernel
theorem d_Md_sheet_57 : decode c_Md_sheet 57 = .ok (.iload_n 3, 1) := by decide +kernel
theorem d_Md_sheet_58 : decode c_Md_sheet 58 = .ok (.if_icmp .ge 22, 3) := by decide +kernel
theorem d_Md_sheet_61 : decode c_Md_sheet 61 = .ok (.aload_n 0, 1) := by decide +kernel
theorem d_Md_sheet_62 : decode c_Md_sheet 62 = .ok (.getfield 16, 3) := by decide +kernel
theorem d_Md_sheet_65 : decode c_Md_sheet 65 = .ok (.bipush 60, 2) := by decide +kernel
theorem d_Md_sheet_67 : decode c_Md_sheet 67 = .ok (.iload_n 1, 1) := by decide +kernel
theorem d_Md_sheet_68 : decode c_Md_sheet 68 = .ok (.imul, 1) := by decide +kernel
theorem d_Md_sheet_69 : decode c_Md_sheet 69 = .ok (.iload 4, 2) := by decide +kernel
theorem d_Md_sheet_71 : decode c_Md_sheet 71 = .ok (.iadd, 1) := by decide +kernel
theorem d_Md_sheet_72 : decode c_Md_sheet 72 = .ok (.iconst 0, 1) := by decide +kernel
theorem d_Md_sheet_73 : decode c_Md_sheet 73 = .ok (.iastore, 1) := by decide +kernel
theorem d_Md_sheet_74 : decode c_Md_sheet 74 = .ok (.iinc 4 1, 3) := by decide +kernel
theorem d_Md_sheet_77 : decode c_Md_sheet 77 = .ok (.goto (-22), 3) := by decide +kernel
theorem d_Md_sheet_80 : decode c_Md_sheet 80 = .ok (.iload_n 3, 1) := by decide +kernel
theorem d_Md_sheet_81 : decode c_Md_sheet 81 = .ok (.ireturn, 1) := by decide +kernel
theorem d_Md_lose_0 : decode c_Md_lose 0 = .ok (.iload_n 1, 1) := by decide +kernel
theorem d_Md_lose_1 : decode c_Md_lose 1 = .ok (.invokestatic 87, 3) := by decide +kernel
theorem d_Md_lose_4 : decode c_Md_lose 4 = .ok (.ifCond .ne 6, 3) := by decide +kernel
theorem d_Md_lose_7 : decode c_Md_lose 7 = .ok (.bipush (-2), 2) := by decide +kernel
theorem d_Md_lose_9 : decode c_Md_lose 9 = .ok (.ireturn, 1) := by decide +kernel
theorem d_Md_lose_10 : decode c_Md_lose 10 = .ok (.aload_n 0, 1) := by decide +kernel
theorem d_Md_lose_11 : decode c_Md_lose 11 = .ok (.getfield 7, 3) := by decide +kernel
theorem d_Md_lose_14 : decode c_Md_lose 14 = .ok (.iload_n 1, 1) := by decide +kernel
theorem d_Md_lose_15 : decode c_Md_lose 15 = .ok (.iaload, 1) := by decide +kernel
theorem d_Md_lose_16 : decode c_Md_lose 16 = .ok (.ifCond .ge 9, 3) := by decide +kernel
theorem d_Md_lose_19 : decode c_Md_lose 19 = .ok (.aload_n 0, 1) := by decide +kernel
theorem d_Md_lose_20 : decode c_Md_lose 20 = .ok (.iconst 1, 1) := by decide +kernel
theorem d_Md_lose_21 : decode c_Md_lose 21 = .ok (.invokevirtual 93, 3) := by decide +kernel
theorem d_Md_lose_24 : decode c_Md_lose 24 = .ok (.ireturn, 1) := by decide +kernel
theorem d_Md_lose_25 : decode c_Md_lose 25 = .ok (.aload_n 0, 1) := by decide +kernel
theorem d_Md_lose_26 : decode c_Md_lose 26 = .ok (.getfield 7, 3) := by decide +kernel
theorem d_Md_lose_29 : decode c_Md_lose 29 = .ok (.iload_n 1, 1) := by decide +kernel
theorem d_Md_lose_30 : decode c_Md_lose 30 = .ok (.iconst (-1), 1) := by decide +kernel
theorem d_Md_lose_31 : decode c_Md_lose 31 = .ok (.iastore, 1) := by decide +kernel
theorem d_Md_lose_32 : decode c_Md_lose 32 = .ok (.aload_n 0, 1) := by decide +kernel
theorem d_Md_lose_33 : decode c_Md_lose 33 = .ok (.getfield 13, 3) := by decide +kernel
theorem d_Md_lose_36 : decode c_Md_lose 36 = .ok (.iload_n 1, 1) := by decide +kernel
theorem d_Md_lose_37 : decode c_Md_lose 37 = .ok (.iaload, 1) := by decide +kernel
theorem d_Md_lose_38 : decode c_Md_lose 38 = .ok (.ireturn, 1) := by decide +kernel
theorem d_Md_lacks_0 : decode c_Md_lacks 0 = .ok (.aload_n 0, 1) := by decide +kernel
theorem d_Md_lacks_1 : decode c_Md_lacks 1 = .ok (.getfield 7, 3) := by decide +kernel
theorem d_Md_lacks_4 : decode c_Md_lacks 4 = .ok (.iload_n 1, 1) := by decide +kernel
theorem d_Md_lacks_5 : decode c_Md_lacks 5 = .ok (.iaload, 1) := by decide +kernel
theorem d_Md_lacks_6 : decode c_Md_lacks 6 = .ok (.ifCond .ge 9, 3) := by decide +kernel
theorem d_Md_lacks_9 : decode c_Md_lacks 9 = .ok (.aload_n 0, 1) := by decide +kernel
theorem d_Md_lacks_10 : decode c_Md_lacks 10 = .ok (.iconst 1, 1) := by decide +kernel
theorem d_Md_lacks_11 : decode c_Md_lacks 11 = .ok (.invokevirtual 93, 3) := by decide +kernel
theorem d_Md_lacks_14 : decode c_Md_lacks 14 = .ok (.ireturn, 1) := by decide +kernel
theorem d_Md_lacks_15 : decode c_Md_lacks 15 = .ok (.aload_n 0, 1) := by decide +kernel
theorem d_Md_lacks_16 : decode c_Md_lacks 16 = .ok (.getfield 7, 3) := by decide +kernel
theorem d_Md_lacks_19 : decode c_Md_lacks 19 = .ok (.iload_n 1, 1) := by decide +kernel
theorem d_Md_lacks_20 : decode c_Md_lacks 20 = .ok (.iaload, 1) := by decide +kernel
theorem d_Md_lacks_21 : decode c_Md_lacks 21 = .ok (.iload_n 2, 1) := by decide +kernel
theorem d_Md_lacks_22 : decode c_Md_lacks 22 = .ok (.if_icmp .eq 9, 3) := by decide +kernel
theorem d_Md_lacks_25 : decode c_Md_lacks 25 = .ok (.aload_n 0, 1) := by decide +kernel
theorem d_Md_lacks_26 : decode c_Md_lacks 26 = .ok (.iconst 3, 1) := by decide +kernel
theorem d_Md_lacks_27 : decode c_Md_lacks 27 = .ok (.invokevirtual 93, 3) := by decide +kernel
theorem d_Md_lacks_30 : decode c_Md_lacks 30 = .ok (.ireturn, 1) := by decide +kernel
theorem d_Md_lacks_31 : decode c_Md_lacks 31 = .ok (.iload_n 3, 1) := by decide +kernel
theorem d_Md_lacks_32 : decode c_Md_lacks 32 = .ok (.i2l, 1) := by decide +kernel
theorem d_Md_lacks_33 : decode c_Md_lacks 33 = .ok (.lconst 0, 1) := by decide +kernel
theorem d_Md_lacks_34 : decode c_Md_lacks 34 = .ok (.aload_n 0, 1) := by decide +kernel
theorem d_Md_lacks_35 : decode c_Md_lacks 35 = .ok (.getfield 13, 3) := by decide +kernel
theorem d_Md_lacks_38 : decode c_Md_lacks 38 = .ok (.iload_n 1, 1) := by decide +kernel
theorem d_Md_lacks_39 : decode c_Md_lacks 39 = .ok (.iaload, 1) := by decide +kernel
theorem d_Md_lacks_40 : decode c_Md_lacks 40 = .ok (.iconst 1, 1) := by decide +kernel
theorem d_Md_lacks_41 : decode c_Md_lacks 41 = .ok (.isub, 1) := by decide +kernel
theorem d_Md_lacks_42 : decode c_Md_lacks 42 = .ok (.i2l, 1) := by decide +kernel
theorem d_Md_lacks_43 : decode c_Md_lacks 43 = .ok (.invokestatic 73, 3) := by decide +kernel
theorem d_Md_lacks_46 : decode c_Md_lacks 46 = .ok (.ifCond .eq 7, 3) := by decide +kernel
theorem d_Md_lacks_49 : decode c_Md_lacks 49 = .ok (.iconst 0, 1) := by decide +kernel
theorem d_Md_lacks_50 : decode c_Md_lacks 50 = .ok (.goto 8, 3) := by decide +kernel
theorem d_Md_lacks_53 : decode c_Md_lacks 53 = .ok (.aload_n 0, 1) := by decide +kernel
theorem d_Md_lacks_54 : decode c_Md_lacks 54 = .ok (.iconst 2, 1) := by decide +kernel
theorem d_Md_lacks_55 : decode c_Md_lacks 55 = .ok (.invokevirtual 93, 3) := by decide +kernel
theorem d_Md_lacks_58 : decode c_Md_lacks 58 = .ok (.ireturn, 1) := by decide +kernel
theorem d_Md_cutTo_0 : decode c_Md_cutTo 0 = .ok (.iload_n 0, 1) := by decide +kernel
theorem d_Md_cutTo_1 : decode c_Md_cutTo 1 = .ok (.ifCond .ne 8, 3) := by decide +kernel
theorem d_Md_cutTo_4 : decode c_Md_cutTo 4 = .ok (.iload_n 1, 1) := by decide +kernel
theorem d_Md_cutTo_5 : decode c_Md_cutTo 5 = .ok (.i2b, 1) := by decide +kernel
theorem d_Md_cutTo_6 : decode c_Md_cutTo 6 = .ok (.goto 14, 3) := by decide +kernel
theorem d_Md_cutTo_9 : decode c_Md_cutTo 9 = .ok (.iload_n 0, 1) := by decide +kernel
theorem d_Md_cutTo_10 : decode c_Md_cutTo 10 = .ok (.iconst 1, 1) := by decide +kernel
theorem d_Md_cutTo_11 : decode c_Md_cutTo 11 = .ok (.if_icmp .ne 8, 3) := by decide +kernel
theorem d_Md_cutTo_14 : decode c_Md_cutTo 14 = .ok (.iload_n 1, 1) := by decide +kernel
theorem d_Md_cutTo_15 : decode c_Md_cutTo 15 = .ok (.i2s, 1) := by decide +kernel
theorem d_Md_cutTo_16 : decode c_Md_cutTo 16 = .ok (.goto 4, 3) := by decide +kernel
theorem d_Md_cutTo_19 : decode c_Md_cutTo 19 = .ok (.iload_n 1, 1) := by decide +kernel
theorem d_Md_cutTo_20 : decode c_Md_cutTo 20 = .ok (.ireturn, 1) := by decide +kernel
theorem d_Md_lay_0 : decode c_Md_lay 0 = .ok (.iload_n 1, 1) := by decide +kernel
theorem d_Md_lay_1 : decode c_Md_lay 1 = .ok (.invokestatic 87, 3) := by decide +kernel
theorem d_Md_lay_4 : decode c_Md_lay 4 = .ok (.ifCond .eq 15, 3) := by decide +kernel
theorem d_Md_lay_7 : decode c_Md_lay 7 = .ok (.iload_n 2, 1) := by decide +kernel
theorem d_Md_lay_8 : decode c_Md_lay 8 = .ok (.i2l, 1) := by decide +kernel
theorem d_Md_lay_9 : decode c_Md_lay 9 = .ok (.lconst 0, 1) := by decide +kernel
theorem d_Md_lay_10 : decode c_Md_lay 10 = .ok (.ldc2_w 91, 3) := by decide +kernel
theorem d_Md_lay_13 : decode c_Md_lay 13 = .ok (.invokestatic 73, 3) := by decide +kernel
theorem d_Md_lay_16 : decode c_Md_lay 16 = .ok (.ifCond .ne 6, 3) := by decide +kernel
theorem d_Md_lay_19 : decode c_Md_lay 19 = .ok (.bipush (-2), 2) := by decide +kernel
theorem d_Md_lay_21 : decode c_Md_lay 21 = .ok (.ireturn, 1) := by decide +kernel
theorem d_Md_lay_22 : decode c_Md_lay 22 = .ok (.aload_n 0, 1) := by decide +kernel
theorem d_Md_lay_23 : decode c_Md_lay 23 = .ok (.iload_n 1, 1) := by decide +kernel
theorem d_Md_lay_24 : decode c_Md_lay 24 = .ok (.iload_n 2, 1) := by decide +kernel
theorem d_Md_lay_25 : decode c_Md_lay 25 = .ok (.iload_n 3, 1) := by decide +kernel
theorem d_Md_lay_26 : decode c_Md_lay 26 = .ok (.invokevirtual 97, 3) := by decide +kernel
theorem d_Md_lay_29 : decode c_Md_lay 29 = .ok (.istore 5, 2) := by decide +kernel
theorem d_Md_lay_31 : decode c_Md_lay 31 = .ok (.iload 5, 2) := by decide +kernel
theorem d_Md_lay_33 : decode c_Md_lay 33 = .ok (.ifCond .eq 6, 3) := by decide +kernel
theorem d_Md_lay_36 : decode c_Md_lay 36 = .ok (.iload 5, 2) := by decide +kernel
theorem d_Md_lay_38 : decode c_Md_lay 38 = .ok (.ireturn, 1) := by decide +kernel
theorem d_Md_lay_39 : decode c_Md_lay 39 = .ok (.aload_n 0, 1) := by decide +kernel
theorem d_Md_lay_40 : decode c_Md_lay 40 = .ok (.getfield 16, 3) := by decide +kernel
theorem d_Md_lay_43 : decode c_Md_lay 43 = .ok (.bipush 60, 2) := by decide +kernel
theorem d_Md_lay_45 : decode c_Md_lay 45 = .ok (.iload_n 1, 1) := by decide +kernel
theorem d_Md_lay_46 : decode c_Md_lay 46 = .ok (.imul, 1) := by decide +kernel
theorem d_Md_lay_47 : decode c_Md_lay 47 = .ok (.iload_n 3, 1) := by decide +kernel
theorem d_Md_lay_48 : decode c_Md_lay 48 = .ok (.iadd, 1) := by decide +kernel
theorem d_Md_lay_49 : decode c_Md_lay 49 = .ok (.iload_n 2, 1) := by decide +kernel
theorem d_Md_lay_50 : decode c_Md_lay 50 = .ok (.iload 4, 2) := by decide +kernel
theorem d_Md_lay_52 : decode c_Md_lay 52 = .ok (.invokestatic 101, 3) := by decide +kernel
theorem d_Md_lay_55 : decode c_Md_lay 55 = .ok (.iastore, 1) := by decide +kernel
theorem d_Md_lay_56 : decode c_Md_lay 56 = .ok (.iconst 1, 1) := by decide +kernel
theorem d_Md_lay_57 : decode c_Md_lay 57 = .ok (.ireturn, 1) := by decide +kernel
theorem d_Md_get_0 : decode c_Md_get 0 = .ok (.iload_n 1, 1) := by decide +kernel
theorem d_Md_get_1 : decode c_Md_get 1 = .ok (.invokestatic 87, 3) := by decide +kernel
theorem d_Md_get_4 : decode c_Md_get 4 = .ok (.ifCond .eq 25, 3) := by decide +kernel
theorem d_Md_get_7 : decode c_Md_get 7 = .ok (.iload_n 2, 1) := by decide +kernel
theorem d_Md_get_8 : decode c_Md_get 8 = .ok (.i2l, 1) := by decide +kernel
theorem d_Md_get_9 : decode c_Md_get 9 = .ok (.lconst 0, 1) := by decide +kernel
theorem d_Md_get_10 : decode c_Md_get 10 = .ok (.ldc2_w 91, 3) := by decide +kernel
theorem d_Md_get_13 : decode c_Md_get 13 = .ok (.invokestatic 73, 3) := by decide +kernel
theorem d_Md_get_16 : decode c_Md_get 16 = .ok (.ifCond .eq 13, 3) := by decide +kernel
theorem d_Md_get_19 : decode c_Md_get 19 = .ok (.aload_n 0, 1) := by decide +kernel
theorem d_Md_get_20 : decode c_Md_get 20 = .ok (.iload_n 1, 1) := by decide +kernel
theorem d_Md_get_21 : decode c_Md_get 21 = .ok (.iload_n 2, 1) := by decide +kernel
theorem d_Md_get_22 : decode c_Md_get 22 = .ok (.iload_n 3, 1) := by decide +kernel
theorem d_Md_get_23 : decode c_Md_get 23 = .ok (.invokevirtual 97, 3) := by decide +kernel
theorem d_Md_get_26 : decode c_Md_get 26 = .ok (.ifCond .eq 6, 3) := by decide +kernel
theorem d_Md_get_29 : decode c_Md_get 29 = .ok (.ldc 105, 2) := by decide +kernel
theorem d_Md_get_31 : decode c_Md_get 31 = .ok (.ireturn, 1) := by decide +kernel
theorem d_Md_get_32 : decode c_Md_get 32 = .ok (.aload_n 0, 1) := by decide +kernel
theorem d_Md_get_33 : decode c_Md_get 33 = .ok (.getfield 16, 3) := by decide +kernel
theorem d_Md_get_36 : decode c_Md_get 36 = .ok (.bipush 60, 2) := by decide +kernel
theorem d_Md_get_38 : decode c_Md_get 38 = .ok (.iload_n 1, 1) := by decide +kernel
theorem d_Md_get_39 : decode c_Md_get 39 = .ok (.imul, 1) := by decide +kernel
theorem d_Md_get_40 : decode c_Md_get 40 = .ok (.iload_n 3, 1) := by decide +kernel
theorem d_Md_get_41 : decode c_Md_get 41 = .ok (.iadd, 1) := by decide +kernel
theorem d_Md_get_42 : decode c_Md_get 42 = .ok (.iaload, 1) := by decide +kernel
theorem d_Md_get_43 : decode c_Md_get 43 = .ok (.ireturn, 1) := by decide +kernel
def f_GR_digest_175 : Nat → Sg → Int64 → Int32 → Option (Int64 × Sg)
  | 0, _, _, _ => none
  | n + 1, σ, v1, v3 =>
    if 5 ≤ v3 then
      bd (f_GR_settled σ) fun r20 σ19 =>
        some (f_GR_mixed v1 r20.toInt64, σ19)
    else
      (f_Fe_balanceOf σ v3).bind fun r22 =>
        f_GR_digest_175 n σ (f_GR_mixed v1 r22.toInt64) (v3 + 1)
theorem f_GR_digest_175_s (n : Nat) (σ : Sg) (v1 : Int64) (v3 : Int32) : f_GR_digest_175 (n + 1) σ v1 v3 =
    if 5 ≤ v3 then
      bd (f_GR_settled σ) fun r20 σ19 =>
        some (f_GR_mixed v1 r20.toInt64, σ19)
    else
      (f_Fe_balanceOf σ v3).bind fun r22 =>
        f_GR_digest_175 n σ (f_GR_mixed v1 r22.toInt64) (v3 + 1) := rfl
set_option maxHeartbeats 4000000 in
theorem j_GR_digest_175 {V : Vx} {X : Xx} {r : Int64} {σ' : Sg}  : ∀ (n : Nat) (σ : Sg) (v1 : Int64) (v3 : Int32), f_GR_digest_175 n σ v1 v3 = some (r, σ') → J V X (k2_rm 7 176) c_GR_digest R_GR 4 (some .long) (Qr V X (some (.long r)) σ') σ 175 [(0, rf V 0), (1, .long v1), (3, .int v3)] [] := by
  intro n
  induction n with
  | zero => intro σ v1 v3 hf; exact nn hf
  | succ n ih =>
    intro σ v1 v3 hf
    rw [f_GR_digest_175_s] at hf
    refine J_iload_n (pc' := 176) d_GR_digest_175 rfl 2 rfl ?_
    refine J_iconst (pc' := 177) (v := 5) d_GR_digest_176 rfl ic_5 ?_
    refine J_icmp_ge (pc' := 180) (tgt := 208) d_GR_digest_177 rfl (by decide) (fun hc17 => ?_) (fun hc17 => ?_)
    · have hf := brT hc17 hf
      refine J_lload_n (pc' := 209) d_GR_digest_208 rfl 1 rfl ?_
      refine J_aload_n (pc' := 210) d_GR_digest_209 rfl 0 rfl ?_
      obtain ⟨r20, σ19, hq18, hf⟩ := bdE hf
      refine J_V (pc' := 213) (as := []) (rest := [.long v1]) (st' := [.int r20, .long v1]) d_GR_digest_210 rfl sh_0 rfl mv_GR_333 (ct_GR_settled V _ σ hq18) rfl rfl ⟨Nat.le_of_ble_eq_true rfl, Nat.le_of_ble_eq_true rfl⟩ ⟨rfl, rfl⟩ (Nat.le_of_ble_eq_true rfl) rfl ?_
      refine J_i2l (pc' := 214) d_GR_digest_213 rfl ?_
      refine J_S (pc' := 217) (as := [.long v1, .long r20.toInt64]) (rest := []) (st' := [.long (f_GR_mixed v1 r20.toInt64)]) d_GR_digest_214 rfl ms_GR_312 (ct_GR_mixed V _ σ19 v1 r20.toInt64) rfl rfl ⟨Nat.le_of_ble_eq_true rfl, Nat.le_of_ble_eq_true rfl⟩ ⟨rfl, rfl⟩ (Nat.le_of_ble_eq_true rfl) rfl ?_
      obtain ⟨rfl, rfl⟩ := resE hf
      exact J_lret d_GR_digest_217
    · have hf := brF hc17 hf
      refine J_lload_n (pc' := 181) d_GR_digest_180 rfl 1 rfl ?_
      refine J_aload_n (pc' := 182) d_GR_digest_181 rfl 0 rfl ?_
      refine J_getR (pc' := 185) d_GR_digest_182 rfl sh_0 fl_GR_56 rfl ?_
      refine J_aload_n (pc' := 186) d_GR_digest_185 rfl 0 rfl ?_
      refine J_getR (pc' := 189) d_GR_digest_186 rfl sh_0 fl_GR_24 rfl ?_
      refine J_aload_n (pc' := 190) d_GR_digest_189 rfl 0 rfl ?_
      refine J_getR (pc' := 193) d_GR_digest_190 rfl sh_0 fl_GR_35 rfl ?_
      refine J_iload_n (pc' := 194) d_GR_digest_193 rfl 2 rfl ?_
      obtain ⟨r22, hq21, hf⟩ := bpE hf
      refine J_V (pc' := 197) (as := [rf V 5, rf V 18, .int v3]) (rest := [.long v1]) (st' := [.int r22, .long v1]) d_GR_digest_194 rfl sh_49 rfl mv_GR_253 (ct_Fe_balanceOf V _ σ v3 hq21) rfl rfl ⟨Nat.le_of_ble_eq_true rfl, Nat.le_of_ble_eq_true rfl⟩ ⟨rfl, rfl⟩ (Nat.le_of_ble_eq_true rfl) rfl ?_
      refine J_i2l (pc' := 198) d_GR_digest_197 rfl ?_
      refine J_S (pc' := 201) (as := [.long v1, .long r22.toInt64]) (rest := []) (st' := [.long (f_GR_mixed v1 r22.toInt64)]) d_GR_digest_198 rfl ms_GR_312 (ct_GR_mixed V _ σ v1 r22.toInt64) rfl rfl ⟨Nat.le_of_ble_eq_true rfl, Nat.le_of_ble_eq_true rfl⟩ ⟨rfl, rfl⟩ (Nat.le_of_ble_eq_true rfl) rfl ?_
      refine J_lstore_n (pc' := 202) (lv' := [(1, .long (f_GR_mixed v1 r22.toInt64)), (0, rf V 0), (3, .int v3)]) d_GR_digest_201 rfl rfl (by decide) rfl ?_
      refine J_iinc (pc' := 205) (j := 2) (v := 1) (lv' := [(3, .int (v3 + 1)), (1, .long (f_GR_mixed v1 r22.toInt64)), (0, rf V 0)]) d_GR_digest_202 rfl rfl ic_1 (by decide) rfl ?_
      refine J_goto (tgt := 175) d_GR_digest_205 (by decide) ?_
      refine J_pick [2, 1, 0] rfl ?_
      exact ih _ _ _ hf
def f_GR_digest_104 : Nat → Sg → Int64 → Int32 → Option (Int64 × Sg)
  | 0, _, _, _ => none
  | n + 1, σ, v1, v3 =>
    if (σ.1 18 2) ≤ v3 then
      bd (f_GR_clashes σ) fun r8 σ7 =>
        (f_GR_heavy σ7).bind fun r10 =>
          bd (f_GR_wind σ7 7) fun r13 σ12 =>
            bd (f_GR_mixedMill σ12 (f_GR_mixed (f_GR_mixed (f_GR_mixed v1 r8.toInt64) r10.toInt64) r13.toInt64)) fun r16 σ15 =>
              f_GR_digest_175 FU σ15 r16 0
    else
      f_GR_digest_104 n σ (f_GR_mixed v1 ((f_Tt_startOf σ v3).toInt64)) (v3 + 1)
theorem f_GR_digest_104_s (n : Nat) (σ : Sg) (v1 : Int64) (v3 : Int32) : f_GR_digest_104 (n + 1) σ v1 v3 =
    if (σ.1 18 2) ≤ v3 then
      bd (f_GR_clashes σ) fun r8 σ7 =>
        (f_GR_heavy σ7).bind fun r10 =>
          bd (f_GR_wind σ7 7) fun r13 σ12 =>
            bd (f_GR_mixedMill σ12 (f_GR_mixed (f_GR_mixed (f_GR_mixed v1 r8.toInt64) r10.toInt64) r13.toInt64)) fun r16 σ15 =>
              f_GR_digest_175 FU σ15 r16 0
    else
      f_GR_digest_104 n σ (f_GR_mixed v1 ((f_Tt_startOf σ v3).toInt64)) (v3 + 1) := rfl
set_option maxHeartbeats 4000000 in
theorem j_GR_digest_104 {V : Vx} {X : Xx} {r : Int64} {σ' : Sg}  : ∀ (n : Nat) (σ : Sg) (v1 : Int64) (v3 : Int32), f_GR_digest_104 n σ v1 v3 = some (r, σ') → J V X (k2_rm 7 176) c_GR_digest R_GR 4 (some .long) (Qr V X (some (.long r)) σ') σ 104 [(0, rf V 0), (1, .long v1), (3, .int v3)] [] := by
  intro n
  induction n with
  | zero => intro σ v1 v3 hf; exact nn hf
  | succ n ih =>
    intro σ v1 v3 hf
    rw [f_GR_digest_104_s] at hf
    refine J_iload_n (pc' := 105) d_GR_digest_104 rfl 2 rfl ?_
    refine J_aload_n (pc' := 106) d_GR_digest_105 rfl 0 rfl ?_
    refine J_getR (pc' := 109) d_GR_digest_106 rfl sh_0 fl_GR_35 rfl ?_
    refine J_getI (pc' := 112) d_GR_digest_109 rfl sh_18 fl_GR_154 rfl ?_
    refine J_icmp_ge (pc' := 115) (tgt := 135) d_GR_digest_112 rfl (by decide) (fun hc5 => ?_) (fun hc5 => ?_)
    · have hf := brT hc5 hf
      refine J_lload_n (pc' := 136) d_GR_digest_135 rfl 1 rfl ?_
      refine J_aload_n (pc' := 137) d_GR_digest_136 rfl 0 rfl ?_
      obtain ⟨r8, σ7, hq6, hf⟩ := bdE hf
      refine J_V (pc' := 140) (as := []) (rest := [.long v1]) (st' := [.int r8, .long v1]) d_GR_digest_137 rfl sh_0 rfl mv_GR_320 (ct_GR_clashes V _ σ hq6) rfl rfl ⟨Nat.le_of_ble_eq_true rfl, Nat.le_of_ble_eq_true rfl⟩ ⟨rfl, rfl⟩ (Nat.le_of_ble_eq_true rfl) rfl ?_
      refine J_i2l (pc' := 141) d_GR_digest_140 rfl ?_
      refine J_S (pc' := 144) (as := [.long v1, .long r8.toInt64]) (rest := []) (st' := [.long (f_GR_mixed v1 r8.toInt64)]) d_GR_digest_141 rfl ms_GR_312 (ct_GR_mixed V _ σ7 v1 r8.toInt64) rfl rfl ⟨Nat.le_of_ble_eq_true rfl, Nat.le_of_ble_eq_true rfl⟩ ⟨rfl, rfl⟩ (Nat.le_of_ble_eq_true rfl) rfl ?_
      refine J_lstore_n (pc' := 145) (lv' := [(1, .long (f_GR_mixed v1 r8.toInt64)), (0, rf V 0), (3, .int v3)]) d_GR_digest_144 rfl rfl (by decide) rfl ?_
      refine J_lload_n (pc' := 146) d_GR_digest_145 rfl 0 rfl ?_
      refine J_aload_n (pc' := 147) d_GR_digest_146 rfl 1 rfl ?_
      obtain ⟨r10, hq9, hf⟩ := bpE hf
      refine J_V (pc' := 150) (as := []) (rest := [.long (f_GR_mixed v1 r8.toInt64)]) (st' := [.int r10, .long (f_GR_mixed v1 r8.toInt64)]) d_GR_digest_147 rfl sh_0 rfl mv_GR_323 (ct_GR_heavy V _ σ7 hq9) rfl rfl ⟨Nat.le_of_ble_eq_true rfl, Nat.le_of_ble_eq_true rfl⟩ ⟨rfl, rfl⟩ (Nat.le_of_ble_eq_true rfl) rfl ?_
      refine J_i2l (pc' := 151) d_GR_digest_150 rfl ?_
      refine J_S (pc' := 154) (as := [.long (f_GR_mixed v1 r8.toInt64), .long r10.toInt64]) (rest := []) (st' := [.long (f_GR_mixed (f_GR_mixed v1 r8.toInt64) r10.toInt64)]) d_GR_digest_151 rfl ms_GR_312 (ct_GR_mixed V _ σ7 (f_GR_mixed v1 r8.toInt64) r10.toInt64) rfl rfl ⟨Nat.le_of_ble_eq_true rfl, Nat.le_of_ble_eq_true rfl⟩ ⟨rfl, rfl⟩ (Nat.le_of_ble_eq_true rfl) rfl ?_
      refine J_lstore_n (pc' := 155) (lv' := [(1, .long (f_GR_mixed (f_GR_mixed v1 r8.toInt64) r10.toInt64)), (0, rf V 0), (3, .int v3)]) d_GR_digest_154 rfl rfl (by decide) rfl ?_
      refine J_lload_n (pc' := 156) d_GR_digest_155 rfl 0 rfl ?_
      refine J_aload_n (pc' := 157) d_GR_digest_156 rfl 1 rfl ?_
      refine J_bipush (pc' := 159) (v := 7) d_GR_digest_157 rfl bc_7 ?_
      obtain ⟨r13, σ12, hq11, hf⟩ := bdE hf
      refine J_V (pc' := 162) (as := [.int 7]) (rest := [.long (f_GR_mixed (f_GR_mixed v1 r8.toInt64) r10.toInt64)]) (st' := [.int r13, .long (f_GR_mixed (f_GR_mixed v1 r8.toInt64) r10.toInt64)]) d_GR_digest_159 rfl sh_0 rfl mv_GR_326 (ct_GR_wind V _ σ7 7 hq11) rfl rfl ⟨Nat.le_of_ble_eq_true rfl, Nat.le_of_ble_eq_true rfl⟩ ⟨rfl, rfl⟩ (Nat.le_of_ble_eq_true rfl) rfl ?_
      refine J_i2l (pc' := 163) d_GR_digest_162 rfl ?_
      refine J_S (pc' := 166) (as := [.long (f_GR_mixed (f_GR_mixed v1 r8.toInt64) r10.toInt64), .long r13.toInt64]) (rest := []) (st' := [.long (f_GR_mixed (f_GR_mixed (f_GR_mixed v1 r8.toInt64) r10.toInt64) r13.toInt64)]) d_GR_digest_163 rfl ms_GR_312 (ct_GR_mixed V _ σ12 (f_GR_mixed (f_GR_mixed v1 r8.toInt64) r10.toInt64) r13.toInt64) rfl rfl ⟨Nat.le_of_ble_eq_true rfl, Nat.le_of_ble_eq_true rfl⟩ ⟨rfl, rfl⟩ (Nat.le_of_ble_eq_true rfl) rfl ?_
      refine J_lstore_n (pc' := 167) (lv' := [(1, .long (f_GR_mixed (f_GR_mixed (f_GR_mixed v1 r8.toInt64) r10.toInt64) r13.toInt64)), (0, rf V 0), (3, .int v3)]) d_GR_digest_166 rfl rfl (by decide) rfl ?_
      refine J_aload_n (pc' := 168) d_GR_digest_167 rfl 1 rfl ?_
      refine J_lload_n (pc' := 169) d_GR_digest_168 rfl 0 rfl ?_
      obtain ⟨r16, σ15, hq14, hf⟩ := bdE hf
      refine J_V (pc' := 172) (as := [.long (f_GR_mixed (f_GR_mixed (f_GR_mixed v1 r8.toInt64) r10.toInt64) r13.toInt64)]) (rest := []) (st' := [.long r16]) d_GR_digest_169 rfl sh_0 rfl mv_GR_329 (ct_GR_mixedMill V _ σ12 (f_GR_mixed (f_GR_mixed (f_GR_mixed v1 r8.toInt64) r10.toInt64) r13.toInt64) hq14) rfl rfl ⟨Nat.le_of_ble_eq_true rfl, Nat.le_of_ble_eq_true rfl⟩ ⟨rfl, rfl⟩ (Nat.le_of_ble_eq_true rfl) rfl ?_
      refine J_lstore_n (pc' := 173) (lv' := [(1, .long r16), (0, rf V 0), (3, .int v3)]) d_GR_digest_172 rfl rfl (by decide) rfl ?_
      refine J_iconst (pc' := 174) (v := 0) d_GR_digest_173 rfl ic_0 ?_
      refine J_istore_n (pc' := 175) (lv' := [(3, .int 0), (1, .long r16), (0, rf V 0)]) d_GR_digest_174 rfl rfl (by decide) rfl ?_
      refine J_pick [2, 1, 0] rfl ?_
      exact j_GR_digest_175 FU _ _ _ hf
    · have hf := brF hc5 hf
      refine J_lload_n (pc' := 116) d_GR_digest_115 rfl 1 rfl ?_
      refine J_aload_n (pc' := 117) d_GR_digest_116 rfl 0 rfl ?_
      refine J_getR (pc' := 120) d_GR_digest_117 rfl sh_0 fl_GR_42 rfl ?_
      refine J_iload_n (pc' := 121) d_GR_digest_120 rfl 2 rfl ?_
      refine J_V (pc' := 124) (as := [.int v3]) (rest := [.long v1]) (st' := [.int (f_Tt_startOf σ v3), .long v1]) d_GR_digest_121 rfl sh_41 rfl mv_GR_195 (ct_Tt_startOf V _ σ v3) rfl rfl ⟨Nat.le_of_ble_eq_true rfl, Nat.le_of_ble_eq_true rfl⟩ ⟨rfl, rfl⟩ (Nat.le_of_ble_eq_true rfl) rfl ?_
      refine J_i2l (pc' := 125) d_GR_digest_124 rfl ?_
      refine J_S (pc' := 128) (as := [.long v1, .long ((f_Tt_startOf σ v3).toInt64)]) (rest := []) (st' := [.long (f_GR_mixed v1 ((f_Tt_startOf σ v3).toInt64))]) d_GR_digest_125 rfl ms_GR_312 (ct_GR_mixed V _ σ v1 ((f_Tt_startOf σ v3).toInt64)) rfl rfl ⟨Nat.le_of_ble_eq_true rfl, Nat.le_of_ble_eq_true rfl⟩ ⟨rfl, rfl⟩ (Nat.le_of_ble_eq_true rfl) rfl ?_
      refine J_lstore_n (pc' := 129) (lv' := [(1, .long (f_GR_mixed v1 ((f_Tt_startOf σ v3).toInt64))), (0, rf V 0), (3, .int v3)]) d_GR_digest_128 rfl rfl (by decide) rfl ?_
      refine J_iinc (pc' := 132) (j := 2) (v := 1) (lv' := [(3, .int (v3 + 1)), (1, .long (f_GR_mixed v1 ((f_Tt_startOf σ v3).toInt64))), (0, rf V 0)]) d_GR_digest_129 rfl rfl ic_1 (by decide) rfl ?_
      refine J_goto (tgt := 104) d_GR_digest_132 (by decide) ?_
      refine J_pick [2, 1, 0] rfl ?_
      exact ih _ _ _ hf
def f_GR_digest_57 : Nat → Sg → Int64 → Int32 → Option (Int64 × Sg)
  | 0, _, _, _ => none
  | n + 1, σ, v1, v3 =>
    if (σ.1 5 3) ≤ v3 then
      (f_Tt_beginWithoutClash σ (σ.1 17 0)).bind fun σ4 =>
        f_GR_digest_104 FU σ4 v1 0
    else
      bd (f_GR_mixedRope σ v1 v3) fun r25 σ24 =>
        f_GR_digest_57 n σ24 r25 (v3 + 1)
theorem f_GR_digest_57_s (n : Nat) (σ : Sg) (v1 : Int64) (v3 : Int32) : f_GR_digest_57 (n + 1) σ v1 v3 =
    if (σ.1 5 3) ≤ v3 then
      (f_Tt_beginWithoutClash σ (σ.1 17 0)).bind fun σ4 =>
        f_GR_digest_104 FU σ4 v1 0
    else
      bd (f_GR_mixedRope σ v1 v3) fun r25 σ24 =>
        f_GR_digest_57 n σ24 r25 (v3 + 1) := rfl
set_option maxHeartbeats 4000000 in
theorem j_GR_digest_57 {V : Vx} {X : Xx} {r : Int64} {σ' : Sg}  : ∀ (n : Nat) (σ : Sg) (v1 : Int64) (v3 : Int32), f_GR_digest_57 n σ v1 v3 = some (r, σ') → J V X (k2_rm 7 176) c_GR_digest R_GR 4 (some .long) (Qr V X (some (.long r)) σ') σ 57 [(0, rf V 0), (1, .long v1), (3, .int v3)] [] := by
  intro n
  induction n with
  | zero => intro σ v1 v3 hf; exact nn hf
  | succ n ih =>
    intro σ v1 v3 hf
    rw [f_GR_digest_57_s] at hf
    refine J_iload_n (pc' := 58) d_GR_digest_57 rfl 2 rfl ?_
    refine J_aload_n (pc' := 59) d_GR_digest_58 rfl 0 rfl ?_
    refine J_getR (pc' := 62) d_GR_digest_59 rfl sh_0 fl_GR_24 rfl ?_
    refine J_getI (pc' := 65) d_GR_digest_62 rfl sh_5 fl_GR_245 rfl ?_
    refine J_icmp_ge (pc' := 68) (tgt := 81) d_GR_digest_65 rfl (by decide) (fun hc2 => ?_) (fun hc2 => ?_)
    · have hf := brT hc2 hf
      refine J_aload_n (pc' := 82) d_GR_digest_81 rfl 0 rfl ?_
      refine J_getR (pc' := 85) d_GR_digest_82 rfl sh_0 fl_GR_42 rfl ?_
      refine J_aload_n (pc' := 86) d_GR_digest_85 rfl 0 rfl ?_
      refine J_getR (pc' := 89) d_GR_digest_86 rfl sh_0 fl_GR_24 rfl ?_
      refine J_aload_n (pc' := 90) d_GR_digest_89 rfl 0 rfl ?_
      refine J_getR (pc' := 93) d_GR_digest_90 rfl sh_0 fl_GR_35 rfl ?_
      refine J_aload_n (pc' := 94) d_GR_digest_93 rfl 0 rfl ?_
      refine J_getR (pc' := 97) d_GR_digest_94 rfl sh_0 fl_GR_28 rfl ?_
      refine J_iconst (pc' := 98) (v := 0) d_GR_digest_97 rfl ic_0 ?_
      refine J_ial (pc' := 99) d_GR_digest_98 rfl sh_17 (vin_c (by decide)) ?_
      obtain ⟨σ4, hq3, hf⟩ := bpE hf
      refine J_V (pc' := 102) (as := [rf V 5, rf V 18, .int (σ.1 17 0)]) (rest := []) (st' := []) d_GR_digest_99 rfl sh_41 rfl mv_GR_191 (ct_Tt_beginWithoutClash V _ σ (σ.1 17 0) hq3) rfl rfl ⟨Nat.le_of_ble_eq_true rfl, Nat.le_of_ble_eq_true rfl⟩ ⟨rfl, rfl⟩ (Nat.le_of_ble_eq_true rfl) rfl ?_
      refine J_iconst (pc' := 103) (v := 0) d_GR_digest_102 rfl ic_0 ?_
      refine J_istore_n (pc' := 104) (lv' := [(3, .int 0), (0, rf V 0), (1, .long v1)]) d_GR_digest_103 rfl rfl (by decide) rfl ?_
      refine J_pick [1, 2, 0] rfl ?_
      exact j_GR_digest_104 FU _ _ _ hf
    · have hf := brF hc2 hf
      refine J_aload_n (pc' := 69) d_GR_digest_68 rfl 0 rfl ?_
      refine J_lload_n (pc' := 70) d_GR_digest_69 rfl 1 rfl ?_
      refine J_iload_n (pc' := 71) d_GR_digest_70 rfl 2 rfl ?_
      obtain ⟨r25, σ24, hq23, hf⟩ := bdE hf
      refine J_V (pc' := 74) (as := [.long v1, .int v3]) (rest := []) (st' := [.long r25]) d_GR_digest_71 rfl sh_0 rfl mv_GR_316 (ct_GR_mixedRope V _ σ v1 v3 hq23) rfl rfl ⟨Nat.le_of_ble_eq_true rfl, Nat.le_of_ble_eq_true rfl⟩ ⟨rfl, rfl⟩ (Nat.le_of_ble_eq_true rfl) rfl ?_
      refine J_lstore_n (pc' := 75) (lv' := [(1, .long r25), (0, rf V 0), (3, .int v3)]) d_GR_digest_74 rfl rfl (by decide) rfl ?_
      refine J_iinc (pc' := 78) (j := 2) (v := 1) (lv' := [(3, .int (v3 + 1)), (1, .long r25), (0, rf V 0)]) d_GR_digest_75 rfl rfl ic_1 (by decide) rfl ?_
      refine J_goto (tgt := 57) d_GR_digest_78 (by decide) ?_
      refine J_pick [2, 1, 0] rfl ?_
      exact ih _ _ _ hf
def f_GR_digest_6 : Nat → Sg → Int64 → Int32 → Option (Int64 × Sg)
  | 0, _, _, _ => none
  | n + 1, σ, v1, v3 =>
    if 8 ≤ v3 then
      f_GR_digest_57 FU σ (f_GR_mixed (f_GR_mixed v1 ((σ.1 5 4).toInt64)) ((σ.1 5 5).toInt64)) 0
    else
      (f_GR_count σ v3).bind fun r27 =>
        f_GR_digest_6 n σ (f_GR_mixed v1 r27.toInt64) (v3 + 1)
theorem f_GR_digest_6_s (n : Nat) (σ : Sg) (v1 : Int64) (v3 : Int32) : f_GR_digest_6 (n + 1) σ v1 v3 =
    if 8 ≤ v3 then
      f_GR_digest_57 FU σ (f_GR_mixed (f_GR_mixed v1 ((σ.1 5 4).toInt64)) ((σ.1 5 5).toInt64)) 0
    else
      (f_GR_count σ v3).bind fun r27 =>
        f_GR_digest_6 n σ (f_GR_mixed v1 r27.toInt64) (v3 + 1) := rfl
set_option maxHeartbeats 4000000 in
theorem j_GR_digest_6 {V : Vx} {X : Xx} {r : Int64} {σ' : Sg}  : ∀ (n : Nat) (σ : Sg) (v1 : Int64) (v3 : Int32), f_GR_digest_6 n σ v1 v3 = some (r, σ') → J V X (k2_rm 7 176) c_GR_digest R_GR 4 (some .long) (Qr V X (some (.long r)) σ') σ 6 [(0, rf V 0), (1, .long v1), (3, .int v3)] [] := by
  intro n
  induction n with
  | zero => intro σ v1 v3 hf; exact nn hf
  | succ n ih =>
    intro σ v1 v3 hf
    rw [f_GR_digest_6_s] at hf
    refine J_iload_n (pc' := 7) d_GR_digest_6 rfl 2 rfl ?_
    refine J_bipush (pc' := 9) (v := 8) d_GR_digest_7 rfl bc_8 ?_
    refine J_icmp_ge (pc' := 12) (tgt := 29) d_GR_digest_9 rfl (by decide) (fun hc1 => ?_) (fun hc1 => ?_)
    · have hf := brT hc1 hf
      refine J_lload_n (pc' := 30) d_GR_digest_29 rfl 1 rfl ?_
      refine J_aload_n (pc' := 31) d_GR_digest_30 rfl 0 rfl ?_
      refine J_getR (pc' := 34) d_GR_digest_31 rfl sh_0 fl_GR_24 rfl ?_
      refine J_getI (pc' := 37) d_GR_digest_34 rfl sh_5 fl_GR_94 rfl ?_
      refine J_i2l (pc' := 38) d_GR_digest_37 rfl ?_
      refine J_S (pc' := 41) (as := [.long v1, .long ((σ.1 5 4).toInt64)]) (rest := []) (st' := [.long (f_GR_mixed v1 ((σ.1 5 4).toInt64))]) d_GR_digest_38 rfl ms_GR_312 (ct_GR_mixed V _ σ v1 ((σ.1 5 4).toInt64)) rfl rfl ⟨Nat.le_of_ble_eq_true rfl, Nat.le_of_ble_eq_true rfl⟩ ⟨rfl, rfl⟩ (Nat.le_of_ble_eq_true rfl) rfl ?_
      refine J_lstore_n (pc' := 42) (lv' := [(1, .long (f_GR_mixed v1 ((σ.1 5 4).toInt64))), (0, rf V 0), (3, .int v3)]) d_GR_digest_41 rfl rfl (by decide) rfl ?_
      refine J_lload_n (pc' := 43) d_GR_digest_42 rfl 0 rfl ?_
      refine J_aload_n (pc' := 44) d_GR_digest_43 rfl 1 rfl ?_
      refine J_getR (pc' := 47) d_GR_digest_44 rfl sh_0 fl_GR_24 rfl ?_
      refine J_getI (pc' := 50) d_GR_digest_47 rfl sh_5 fl_GR_97 rfl ?_
      refine J_i2l (pc' := 51) d_GR_digest_50 rfl ?_
      refine J_S (pc' := 54) (as := [.long (f_GR_mixed v1 ((σ.1 5 4).toInt64)), .long ((σ.1 5 5).toInt64)]) (rest := []) (st' := [.long (f_GR_mixed (f_GR_mixed v1 ((σ.1 5 4).toInt64)) ((σ.1 5 5).toInt64))]) d_GR_digest_51 rfl ms_GR_312 (ct_GR_mixed V _ σ (f_GR_mixed v1 ((σ.1 5 4).toInt64)) ((σ.1 5 5).toInt64)) rfl rfl ⟨Nat.le_of_ble_eq_true rfl, Nat.le_of_ble_eq_true rfl⟩ ⟨rfl, rfl⟩ (Nat.le_of_ble_eq_true rfl) rfl ?_
      refine J_lstore_n (pc' := 55) (lv' := [(1, .long (f_GR_mixed (f_GR_mixed v1 ((σ.1 5 4).toInt64)) ((σ.1 5 5).toInt64))), (0, rf V 0), (3, .int v3)]) d_GR_digest_54 rfl rfl (by decide) rfl ?_
      refine J_iconst (pc' := 56) (v := 0) d_GR_digest_55 rfl ic_0 ?_
      refine J_istore_n (pc' := 57) (lv' := [(3, .int 0), (1, .long (f_GR_mixed (f_GR_mixed v1 ((σ.1 5 4).toInt64)) ((σ.1 5 5).toInt64))), (0, rf V 0)]) d_GR_digest_56 rfl rfl (by decide) rfl ?_
      refine J_pick [2, 1, 0] rfl ?_
      exact j_GR_digest_57 FU _ _ _ hf
    · have hf := brF hc1 hf
      refine J_lload_n (pc' := 13) d_GR_digest_12 rfl 1 rfl ?_
      refine J_aload_n (pc' := 14) d_GR_digest_13 rfl 0 rfl ?_
      refine J_iload_n (pc' := 15) d_GR_digest_14 rfl 2 rfl ?_
      obtain ⟨r27, hq26, hf⟩ := bpE hf
      refine J_V (pc' := 18) (as := [.int v3]) (rest := [.long v1]) (st' := [.int r27, .long v1]) d_GR_digest_15 rfl sh_0 rfl mv_GR_309 (ct_GR_count V _ σ v3 hq26) rfl rfl ⟨Nat.le_of_ble_eq_true rfl, Nat.le_of_ble_eq_true rfl⟩ ⟨rfl, rfl⟩ (Nat.le_of_ble_eq_true rfl) rfl ?_
      refine J_i2l (pc' := 19) d_GR_digest_18 rfl ?_
      refine J_S (pc' := 22) (as := [.long v1, .long r27.toInt64]) (rest := []) (st' := [.long (f_GR_mixed v1 r27.toInt64)]) d_GR_digest_19 rfl ms_GR_312 (ct_GR_mixed V _ σ v1 r27.toInt64) rfl rfl ⟨Nat.le_of_ble_eq_true rfl, Nat.le_of_ble_eq_true rfl⟩ ⟨rfl, rfl⟩ (Nat.le_of_ble_eq_true rfl) rfl ?_
      refine J_lstore_n (pc' := 23) (lv' := [(1, .long (f_GR_mixed v1 r27.toInt64)), (0, rf V 0), (3, .int v3)]) d_GR_digest_22 rfl rfl (by decide) rfl ?_
      refine J_iinc (pc' := 26) (j := 2) (v := 1) (lv' := [(3, .int (v3 + 1)), (1, .long (f_GR_mixed v1 r27.toInt64)), (0, rf V 0)]) d_GR_digest_23 rfl rfl ic_1 (by decide) rfl ?_
      refine J_goto (tgt := 6) d_GR_digest_26 (by decide) ?_
      refine J_pick [2, 1, 0] rfl ?_
      exact ih _ _ _ hf
def f_GR_digest (σ : Sg)  : Option (Int64 × Sg) :=
  f_GR_digest_6 FU σ 17 0
set_option maxHeartbeats 4000000 in
theorem j_GR_digest {V : Vx} {X : Xx} {r : Int64} {σ' : Sg} (σ : Sg) (hf : f_GR_digest σ = some (r, σ')) : J V X (k2_rm 7 176) c_GR_digest R_GR 4 (some .long) (Qr V X (some (.long r)) σ') σ 0 [(0, rf V 0)] [] := by
  unfold f_GR_digest at hf
  refine J_ldc2 (pc' := 3) (v := 17) d_GR_digest_0 rfl cw_GR_307 ?_
  refine J_lstore_n (pc' := 4) (lv' := [(1, .long 17), (0, rf V 0)]) d_GR_digest_3 rfl rfl (by decide) rfl ?_
  refine J_iconst (pc' := 5) (v := 0) d_GR_digest_4 rfl ic_0 ?_
  refine J_istore_n (pc' := 6) (lv' := [(3, .int 0), (1, .long 17), (0, rf V 0)]) d_GR_digest_5 rfl rfl (by decide) rfl ?_
  refine J_pick [2, 1, 0] rfl ?_
  exact j_GR_digest_6 FU _ _ _ hf
theorem ct_GR_digest (V : Vx) (l : Launch) (σ : Sg) {r : Int64} {σ' : Sg} (hf : f_GR_digest σ = some (r, σ')) : Ct V l y_GR_digest c_GR_digest 4 (some .long) (k2_rm 7 176) [rf V 0] σ (some (.long r)) σ' := Ct.ofJ (by decide +kernel) (Nat.le_of_ble_eq_true rfl) fun X _ => j_GR_digest _  hf
def f_Md_in (v0 : Int64) (v2 : Int64) (v4 : Int64) : Int32 :=
  if (lg_cmp v0 v2) < 0 then 0 else if 0 < (lg_cmp v0 v4) then 0 else 1
set_option maxHeartbeats 4000000 in
theorem j_Md_in {V : Vx} {X : Xx} {r : Int32} (σ : Sg) (v0 : Int64) (v2 : Int64) (v4 : Int64) (hf : f_Md_in v0 v2 v4 = r) : J V X (k2_rm 0 0) c_Md_in R_Md 6 (some .boolean) (Qr V X (some (.int r)) σ) σ 0 [(0, .long v0), (2, .long v2), (4, .long v4)] [] := by
  unfold f_Md_in at hf
  refine J_lload_n (pc' := 1) d_Md_in_0 rfl 0 rfl ?_
  refine J_lload_n (pc' := 2) d_Md_in_1 rfl 1 rfl ?_
  refine J_lcmp (pc' := 3) d_Md_in_2 rfl ?_
  refine J_if_lt (pc' := 6) (tgt := 17) d_Md_in_3 rfl (by decide) (fun hc1 => ?_) (fun hc1 => ?_)
  · have hf := brT hc1 hf
    refine J_iconst (pc' := 18) (v := 0) d_Md_in_17 rfl ic_0 ?_
    subst hf
    exact J_zret (by decide) d_Md_in_18
  · have hf := brF hc1 hf
    refine J_lload_n (pc' := 7) d_Md_in_6 rfl 0 rfl ?_
    refine J_lload (pc' := 9) d_Md_in_7 rfl 2 rfl ?_
    refine J_lcmp (pc' := 10) d_Md_in_9 rfl ?_
    refine J_if_gt (pc' := 13) (tgt := 17) d_Md_in_10 rfl (by decide) (fun hc2 => ?_) (fun hc2 => ?_)
    · have hf := brT hc2 hf
      refine J_iconst (pc' := 18) (v := 0) d_Md_in_17 rfl ic_0 ?_
      subst hf
      exact J_zret (by decide) d_Md_in_18
    · have hf := brF hc2 hf
      refine J_iconst (pc' := 14) (v := 1) d_Md_in_13 rfl ic_1 ?_
      refine J_goto (tgt := 18) d_Md_in_14 (by decide) ?_
      subst hf
      exact J_zret (by decide) d_Md_in_18
theorem ct_Md_in (V : Vx) (l : Launch) (σ : Sg) (v0 : Int64) (v2 : Int64) (v4 : Int64) : Ct V l y_Md_in c_Md_in 6 (some .boolean) (k2_rm 0 0) [.long v0, .long v2, .long v4] σ (some (.int (f_Md_in v0 v2 v4))) σ := Ct.ofJ (by decide +kernel) (Nat.le_of_ble_eq_true rfl) fun X _ => j_Md_in _ v0 v2 v4 rfl
def f_Md_isSheet (v0 : Int32) : Int32 :=
  zb (f_Md_in v0.toInt64 0 3)
set_option maxHeartbeats 4000000 in
theorem j_Md_isSheet {V : Vx} {X : Xx} {r : Int32} (σ : Sg) (v0 : Int32) (hf : f_Md_isSheet v0 = r) : J V X (k2_rm 1 25) c_Md_isSheet R_Md 1 (some .boolean) (Qr V X (some (.int r)) σ) σ 0 [(0, .int v0)] [] := by
  unfold f_Md_isSheet at hf
  refine J_iload_n (pc' := 1) d_Md_isSheet_0 rfl 0 rfl ?_
  refine J_i2l (pc' := 2) d_Md_isSheet_1 rfl ?_
  refine J_lconst (pc' := 3) (v := 0) d_Md_isSheet_2 rfl lc_0 ?_
  refine J_ldc2 (pc' := 6) (v := 3) d_Md_isSheet_3 rfl cw_Md_85 ?_
  refine J_S (pc' := 9) (as := [.long v0.toInt64, .long 0, .long 3]) (rest := []) (st' := [.int (f_Md_in v0.toInt64 0 3)]) d_Md_isSheet_6 rfl ms_Md_73 (ct_Md_in V _ σ v0.toInt64 0 3) rfl rfl ⟨Nat.le_of_ble_eq_true rfl, Nat.le_of_ble_eq_true rfl⟩ ⟨rfl, rfl⟩ (Nat.le_of_ble_eq_true rfl) rfl ?_
  subst hf
  exact J_zretG d_Md_isSheet_9
theorem ct_Md_isSheet (V : Vx) (l : Launch) (σ : Sg) (v0 : Int32) : Ct V l y_Md_isSheet c_Md_isSheet 1 (some .boolean) (k2_rm 1 25) [.int v0] σ (some (.int (f_Md_isSheet v0))) σ := Ct.ofJ (by decide +kernel) (Nat.le_of_ble_eq_true rfl) fun X _ => j_Md_isSheet _ v0 rfl
def f_Md_met (σ : Sg) (v1 : Int32) : Option (Int32 × Sg) :=
  some ((-10) - v1, (pI σ 66 4 v1))
set_option maxHeartbeats 4000000 in
theorem j_Md_met {V : Vx} {X : Xx} {r : Int32} {σ' : Sg} (σ : Sg) (v1 : Int32) (hf : f_Md_met σ v1 = some (r, σ')) : J V X (k2_rm 0 0) c_Md_met R_Md 2 (some .int) (Qr V X (some (.int r)) σ') σ 0 [(0, rf V 66), (1, .int v1)] [] := by
  unfold f_Md_met at hf
  refine J_aload_n (pc' := 1) d_Md_met_0 rfl 0 rfl ?_
  refine J_iload_n (pc' := 2) d_Md_met_1 rfl 1 rfl ?_
  refine J_putI (pc' := 5) d_Md_met_2 rfl sh_66 fp_Md_81 rfl ?_
  refine J_bipush (pc' := 7) (v := (-10)) d_Md_met_5 rfl bc_m10 ?_
  refine J_iload_n (pc' := 8) d_Md_met_7 rfl 1 rfl ?_
  refine J_isub (pc' := 9) d_Md_met_8 rfl ?_
  obtain ⟨rfl, rfl⟩ := resE hf
  exact J_iret d_Md_met_9
theorem ct_Md_met (V : Vx) (l : Launch) (σ : Sg) (v1 : Int32) {r : Int32} {σ' : Sg} (hf : f_Md_met σ v1 = some (r, σ')) : Ct V l y_Md_met c_Md_met 2 (some .int) (k2_rm 0 0) [rf V 66, .int v1] σ (some (.int r)) σ' := Ct.ofJ (by decide +kernel) (Nat.le_of_ble_eq_true rfl) fun X _ => j_Md_met _ v1 hf
def f_Md_sheet_55 : Nat → Sg → Int32 → Int32 → Int32 → Option (Int32 × Sg)
  | 0, _, _, _, _ => none
  | n + 1, σ, v1, v3, v4 =>
    if v3 ≤ v4 then
      some (v3, σ)
    else
      gd (vin ((60 * v1) + v4) 240) (
        f_Md_sheet_55 n (pI σ 69 ((60 * v1) + v4).toNatClampNeg 0) v1 v3 (v4 + 1))
theorem f_Md_sheet_55_s (n : Nat) (σ : Sg) (v1 : Int32) (v3 : Int32) (v4 : Int32) : f_Md_sheet_55 (n + 1) σ v1 v3 v4 =
    if v3 ≤ v4 then
      some (v3, σ)
    else
      gd (vin ((60 * v1) + v4) 240) (
        f_Md_sheet_55 n (pI σ 69 ((60 * v1) + v4).toNatClampNeg 0) v1 v3 (v4 + 1)) := rfl
set_option maxHeartbeats 4000000 in
theorem j_Md_sheet_55 {V : Vx} {X : Xx} {r : Int32} {σ' : Sg}  : ∀ (n : Nat) (σ : Sg) (v1 : Int32) (v3 : Int32) (v4 : Int32), f_Md_sheet_55 n σ v1 v3 v4 = some (r, σ') → J V X (k2_rm 2 45) c_Md_sheet R_Md 5 (some .int) (Qr V X (some (.int r)) σ') σ 55 [(0, rf V 66), (1, .int v1), (3, .int v3), (4, .int v4)] [] := by
  intro n
  induction n with
  | zero => intro σ v1 v3 v4 hf; exact nn hf
  | succ n ih =>
    intro σ v1 v3 v4 hf
    rw [f_Md_sheet_55_s] at hf
    refine J_iload (pc' := 57) d_Md_sheet_55 rfl 3 rfl ?_
    refine J_iload_n (pc' := 58) d_Md_sheet_57 rfl 2 rfl ?_
    refine J_icmp_ge (pc' := 61) (tgt := 80) d_Md_sheet_58 rfl (by decide) (fun hc7 => ?_) (fun hc7 => ?_)
    · have hf := brT hc7 hf
      refine J_iload_n (pc' := 81) d_Md_sheet_80 rfl 2 rfl ?_
      obtain ⟨rfl, rfl⟩ := resE hf
      exact J_iret d_Md_sheet_81
    · have hf := brF hc7 hf
      refine J_aload_n (pc' := 62) d_Md_sheet_61 rfl 0 rfl ?_
      refine J_getR (pc' := 65) d_Md_sheet_62 rfl sh_66 fl_Md_16 rfl ?_
      refine J_bipush (pc' := 67) (v := 60) d_Md_sheet_65 rfl bc_60 ?_
      refine J_iload_n (pc' := 68) d_Md_sheet_67 rfl 1 rfl ?_
      refine J_imul (pc' := 69) d_Md_sheet_68 rfl ?_
      refine J_iload (pc' := 71) d_Md_sheet_69 rfl 3 rfl ?_
      refine J_iadd (pc' := 72) d_Md_sheet_71 rfl ?_
      refine J_iconst (pc' := 73) (v := 0) d_Md_sheet_72 rfl ic_0 ?_
      obtain ⟨hg8, hf⟩ := gdE hf
      refine J_ias (pc' := 74) d_Md_sheet_73 rfl sh_69 (vinP hg8) ?_
      refine J_iinc (pc' := 77) (j := 3) (v := 1) (lv' := [(4, .int (v4 + 1)), (0, rf V 66), (1, .int v1), (3, .int v3)]) d_Md_sheet_74 rfl rfl ic_1 (by decide) rfl ?_
      refine J_goto (tgt := 55) d_Md_sheet_77 (by decide) ?_
      refine J_pick [1, 2, 3, 0] rfl ?_
      exact ih _ _ _ _ hf
def f_Md_sheet (σ : Sg) (v1 : Int32) (v2 : Int32) (v3 : Int32) : Option (Int32 × Sg) :=
  if (f_Md_isSheet v1) = 0 then
    some ((-2), σ)
  else
    if (f_Md_in v2.toInt64 0 2) = 0 then
      some ((-2), σ)
    else
      if v3 ≤ 60 then
        if 0 ≤ v3 then
          gd (vin v1 4) (
            gd (vin v1 4) (
              f_Md_sheet_55 FU (pI (pI σ 67 v1.toNatClampNeg v2) 68 v1.toNatClampNeg v3) v1 v3 0))
        else
          bd (f_Md_met σ 5) fun r11 σ10 =>
            some (r11, σ10)
      else
        some ((-2), σ)
set_option maxHeartbeats 4000000 in
theorem j_Md_sheet {V : Vx} {X : Xx} {r : Int32} {σ' : Sg} (σ : Sg) (v1 : Int32) (v2 : Int32) (v3 : Int32) (hf : f_Md_sheet σ v1 v2 v3 = some (r, σ')) : J V X (k2_rm 2 45) c_Md_sheet R_Md 5 (some .int) (Qr V X (some (.int r)) σ') σ 0 [(0, rf V 66), (1, .int v1), (2, .int v2), (3, .int v3)] [] := by
  unfold f_Md_sheet at hf
  refine J_iload_n (pc' := 1) d_Md_sheet_0 rfl 1 rfl ?_
  refine J_S (pc' := 4) (as := [.int v1]) (rest := []) (st' := [.int (f_Md_isSheet v1)]) d_Md_sheet_1 rfl ms_Md_87 (ct_Md_isSheet V _ σ v1) rfl rfl ⟨Nat.le_of_ble_eq_true rfl, Nat.le_of_ble_eq_true rfl⟩ ⟨rfl, rfl⟩ (Nat.le_of_ble_eq_true rfl) rfl ?_
  refine J_if_eq (pc' := 7) (tgt := 25) d_Md_sheet_4 rfl (by decide) (fun hc1 => ?_) (fun hc1 => ?_)
  · have hf := brT hc1 hf
    refine J_bipush (pc' := 27) (v := (-2)) d_Md_sheet_25 rfl bc_m2 ?_
    obtain ⟨rfl, rfl⟩ := resE hf
    exact J_iret d_Md_sheet_27
  · have hf := brF hc1 hf
    refine J_iload_n (pc' := 8) d_Md_sheet_7 rfl 2 rfl ?_
    refine J_i2l (pc' := 9) d_Md_sheet_8 rfl ?_
    refine J_lconst (pc' := 10) (v := 0) d_Md_sheet_9 rfl lc_0 ?_
    refine J_ldc2 (pc' := 13) (v := 2) d_Md_sheet_10 rfl cw_Md_91 ?_
    refine J_S (pc' := 16) (as := [.long v2.toInt64, .long 0, .long 2]) (rest := []) (st' := [.int (f_Md_in v2.toInt64 0 2)]) d_Md_sheet_13 rfl ms_Md_73 (ct_Md_in V _ σ v2.toInt64 0 2) rfl rfl ⟨Nat.le_of_ble_eq_true rfl, Nat.le_of_ble_eq_true rfl⟩ ⟨rfl, rfl⟩ (Nat.le_of_ble_eq_true rfl) rfl ?_
    refine J_if_eq (pc' := 19) (tgt := 25) d_Md_sheet_16 rfl (by decide) (fun hc2 => ?_) (fun hc2 => ?_)
    · have hf := brT hc2 hf
      refine J_bipush (pc' := 27) (v := (-2)) d_Md_sheet_25 rfl bc_m2 ?_
      obtain ⟨rfl, rfl⟩ := resE hf
      exact J_iret d_Md_sheet_27
    · have hf := brF hc2 hf
      refine J_iload_n (pc' := 20) d_Md_sheet_19 rfl 3 rfl ?_
      refine J_bipush (pc' := 22) (v := 60) d_Md_sheet_20 rfl bc_60 ?_
      refine J_icmp_le (pc' := 25) (tgt := 28) d_Md_sheet_22 rfl (by decide) (fun hc3 => ?_) (fun hc3 => ?_)
      · have hf := brT hc3 hf
        refine J_iload_n (pc' := 29) d_Md_sheet_28 rfl 3 rfl ?_
        refine J_if_ge (pc' := 32) (tgt := 38) d_Md_sheet_29 rfl (by decide) (fun hc4 => ?_) (fun hc4 => ?_)
        · have hf := brT hc4 hf
          refine J_aload_n (pc' := 39) d_Md_sheet_38 rfl 0 rfl ?_
          refine J_getR (pc' := 42) d_Md_sheet_39 rfl sh_66 fl_Md_7 rfl ?_
          refine J_iload_n (pc' := 43) d_Md_sheet_42 rfl 1 rfl ?_
          refine J_iload_n (pc' := 44) d_Md_sheet_43 rfl 2 rfl ?_
          obtain ⟨hg5, hf⟩ := gdE hf
          refine J_ias (pc' := 45) d_Md_sheet_44 rfl sh_67 (vinP hg5) ?_
          refine J_aload_n (pc' := 46) d_Md_sheet_45 rfl 0 rfl ?_
          refine J_getR (pc' := 49) d_Md_sheet_46 rfl sh_66 fl_Md_13 rfl ?_
          refine J_iload_n (pc' := 50) d_Md_sheet_49 rfl 1 rfl ?_
          refine J_iload_n (pc' := 51) d_Md_sheet_50 rfl 3 rfl ?_
          obtain ⟨hg6, hf⟩ := gdE hf
          refine J_ias (pc' := 52) d_Md_sheet_51 rfl sh_68 (vinP hg6) ?_
          refine J_iconst (pc' := 53) (v := 0) d_Md_sheet_52 rfl ic_0 ?_
          refine J_istore (pc' := 55) (lv' := [(4, .int 0), (0, rf V 66), (1, .int v1), (2, .int v2), (3, .int v3)]) d_Md_sheet_53 rfl (by decide) rfl ?_
          refine J_pick [1, 2, 4, 0] rfl ?_
          exact j_Md_sheet_55 FU _ _ _ _ hf
        · have hf := brF hc4 hf
          refine J_aload_n (pc' := 33) d_Md_sheet_32 rfl 0 rfl ?_
          refine J_iconst (pc' := 34) (v := 5) d_Md_sheet_33 rfl ic_5 ?_
          obtain ⟨r11, σ10, hq9, hf⟩ := bdE hf
          refine J_V (pc' := 37) (as := [.int 5]) (rest := []) (st' := [.int r11]) d_Md_sheet_34 rfl sh_66 rfl mv_Md_93 (ct_Md_met V _ σ 5 hq9) rfl rfl ⟨Nat.le_of_ble_eq_true rfl, Nat.le_of_ble_eq_true rfl⟩ ⟨rfl, rfl⟩ (Nat.le_of_ble_eq_true rfl) rfl ?_
          obtain ⟨rfl, rfl⟩ := resE hf
          exact J_iret d_Md_sheet_37
      · have hf := brF hc3 hf
        refine J_bipush (pc' := 27) (v := (-2)) d_Md_sheet_25 rfl bc_m2 ?_
        obtain ⟨rfl, rfl⟩ := resE hf
        exact J_iret d_Md_sheet_27
theorem ct_Md_sheet (V : Vx) (l : Launch) (σ : Sg) (v1 : Int32) (v2 : Int32) (v3 : Int32) {r : Int32} {σ' : Sg} (hf : f_Md_sheet σ v1 v2 v3 = some (r, σ')) : Ct V l y_Md_sheet c_Md_sheet 5 (some .int) (k2_rm 2 45) [rf V 66, .int v1, .int v2, .int v3] σ (some (.int r)) σ' := Ct.ofJ (by decide +kernel) (Nat.le_of_ble_eq_true rfl) fun X _ => j_Md_sheet _ v1 v2 v3 hf
def f_Md_lose (σ : Sg) (v1 : Int32) : Option (Int32 × Sg) :=
  if (f_Md_isSheet v1) = 0 then
    some ((-2), σ)
  else
    gd (vin v1 4) (
      if 0 ≤ (σ.1 67 v1.toNatClampNeg) then
        gd (vin v1 4) (
          gd (vin v1 4) (
            some ((pI σ 67 v1.toNatClampNeg (-1)).1 68 v1.toNatClampNeg, (pI σ 67 v1.toNatClampNeg (-1)))))
      else
        bd (f_Md_met σ 1) fun r8 σ7 =>
          some (r8, σ7))
set_option maxHeartbeats 4000000 in
theorem j_Md_lose {V : Vx} {X : Xx} {r : Int32} {σ' : Sg} (σ : Sg) (v1 : Int32) (hf : f_Md_lose σ v1 = some (r, σ')) : J V X (k2_rm 2 45) c_Md_lose R_Md 2 (some .int) (Qr V X (some (.int r)) σ') σ 0 [(0, rf V 66), (1, .int v1)] [] := by
  unfold f_Md_lose at hf
  refine J_iload_n (pc' := 1) d_Md_lose_0 rfl 1 rfl ?_
  refine J_S (pc' := 4) (as := [.int v1]) (rest := []) (st' := [.int (f_Md_isSheet v1)]) d_Md_lose_1 rfl ms_Md_87 (ct_Md_isSheet V _ σ v1) rfl rfl ⟨Nat.le_of_ble_eq_true rfl, Nat.le_of_ble_eq_true rfl⟩ ⟨rfl, rfl⟩ (Nat.le_of_ble_eq_true rfl) rfl ?_
  refine J_if_ne (pc' := 7) (tgt := 10) d_Md_lose_4 rfl (by decide) (fun hc1 => ?_) (fun hc1 => ?_)
  · have hf := brF hc1 hf
    refine J_aload_n (pc' := 11) d_Md_lose_10 rfl 0 rfl ?_
    refine J_getR (pc' := 14) d_Md_lose_11 rfl sh_66 fl_Md_7 rfl ?_
    refine J_iload_n (pc' := 15) d_Md_lose_14 rfl 1 rfl ?_
    obtain ⟨hg2, hf⟩ := gdE hf
    refine J_ial (pc' := 16) d_Md_lose_15 rfl sh_67 (vinP hg2) ?_
    refine J_if_ge (pc' := 19) (tgt := 25) d_Md_lose_16 rfl (by decide) (fun hc3 => ?_) (fun hc3 => ?_)
    · have hf := brT hc3 hf
      refine J_aload_n (pc' := 26) d_Md_lose_25 rfl 0 rfl ?_
      refine J_getR (pc' := 29) d_Md_lose_26 rfl sh_66 fl_Md_7 rfl ?_
      refine J_iload_n (pc' := 30) d_Md_lose_29 rfl 1 rfl ?_
      refine J_iconst (pc' := 31) (v := (-1)) d_Md_lose_30 rfl ic_m1 ?_
      obtain ⟨hg4, hf⟩ := gdE hf
      refine J_ias (pc' := 32) d_Md_lose_31 rfl sh_67 (vinP hg4) ?_
      refine J_aload_n (pc' := 33) d_Md_lose_32 rfl 0 rfl ?_
      refine J_getR (pc' := 36) d_Md_lose_33 rfl sh_66 fl_Md_13 rfl ?_
      refine J_iload_n (pc' := 37) d_Md_lose_36 rfl 1 rfl ?_
      obtain ⟨hg5, hf⟩ := gdE hf
      refine J_ial (pc' := 38) d_Md_lose_37 rfl sh_68 (vinP hg5) ?_
      obtain ⟨rfl, rfl⟩ := resE hf
      exact J_iret d_Md_lose_38
    · have hf := brF hc3 hf
      refine J_aload_n (pc' := 20) d_Md_lose_19 rfl 0 rfl ?_
      refine J_iconst (pc' := 21) (v := 1) d_Md_lose_20 rfl ic_1 ?_
      obtain ⟨r8, σ7, hq6, hf⟩ := bdE hf
      refine J_V (pc' := 24) (as := [.int 1]) (rest := []) (st' := [.int r8]) d_Md_lose_21 rfl sh_66 rfl mv_Md_93 (ct_Md_met V _ σ 1 hq6) rfl rfl ⟨Nat.le_of_ble_eq_true rfl, Nat.le_of_ble_eq_true rfl⟩ ⟨rfl, rfl⟩ (Nat.le_of_ble_eq_true rfl) rfl ?_
      obtain ⟨rfl, rfl⟩ := resE hf
      exact J_iret d_Md_lose_24
  · have hf := brT hc1 hf
    refine J_bipush (pc' := 9) (v := (-2)) d_Md_lose_7 rfl bc_m2 ?_
    obtain ⟨rfl, rfl⟩ := resE hf
    exact J_iret d_Md_lose_9
theorem ct_Md_lose (V : Vx) (l : Launch) (σ : Sg) (v1 : Int32) {r : Int32} {σ' : Sg} (hf : f_Md_lose σ v1 = some (r, σ')) : Ct V l y_Md_lose c_Md_lose 2 (some .int) (k2_rm 2 45) [rf V 66, .int v1] σ (some (.int r)) σ' := Ct.ofJ (by decide +kernel) (Nat.le_of_ble_eq_true rfl) fun X _ => j_Md_lose _ v1 hf
def f_Md_lacks (σ : Sg) (v1 : Int32) (v2 : Int32) (v3 : Int32) : Option (Int32 × Sg) :=
  gd (vin v1 4) (
    if 0 ≤ (σ.1 67 v1.toNatClampNeg) then
      gd (vin v1 4) (
        if (σ.1 67 v1.toNatClampNeg) = v2 then
          gd (vin v1 4) (
            if (f_Md_in v3.toInt64 0 (((σ.1 68 v1.toNatClampNeg) - 1).toInt64)) = 0 then
              bd (f_Md_met σ 2) fun r9 σ8 =>
                some (r9, σ8)
            else
              some (0, σ))
        else
          bd (f_Md_met σ 3) fun r12 σ11 =>
            some (r12, σ11))
    else
      bd (f_Md_met σ 1) fun r15 σ14 =>
        some (r15, σ14))
set_option maxHeartbeats 4000000 in
theorem j_Md_lacks {V : Vx} {X : Xx} {r : Int32} {σ' : Sg} (σ : Sg) (v1 : Int32) (v2 : Int32) (v3 : Int32) (hf : f_Md_lacks σ v1 v2 v3 = some (r, σ')) : J V X (k2_rm 1 25) c_Md_lacks R_Md 4 (some .int) (Qr V X (some (.int r)) σ') σ 0 [(0, rf V 66), (1, .int v1), (2, .int v2), (3, .int v3)] [] := by
  unfold f_Md_lacks at hf
  refine J_aload_n (pc' := 1) d_Md_lacks_0 rfl 0 rfl ?_
  refine J_getR (pc' := 4) d_Md_lacks_1 rfl sh_66 fl_Md_7 rfl ?_
  refine J_iload_n (pc' := 5) d_Md_lacks_4 rfl 1 rfl ?_
  obtain ⟨hg1, hf⟩ := gdE hf
  refine J_ial (pc' := 6) d_Md_lacks_5 rfl sh_67 (vinP hg1) ?_
  refine J_if_ge (pc' := 9) (tgt := 15) d_Md_lacks_6 rfl (by decide) (fun hc2 => ?_) (fun hc2 => ?_)
  · have hf := brT hc2 hf
    refine J_aload_n (pc' := 16) d_Md_lacks_15 rfl 0 rfl ?_
    refine J_getR (pc' := 19) d_Md_lacks_16 rfl sh_66 fl_Md_7 rfl ?_
    refine J_iload_n (pc' := 20) d_Md_lacks_19 rfl 1 rfl ?_
    obtain ⟨hg3, hf⟩ := gdE hf
    refine J_ial (pc' := 21) d_Md_lacks_20 rfl sh_67 (vinP hg3) ?_
    refine J_iload_n (pc' := 22) d_Md_lacks_21 rfl 2 rfl ?_
    refine J_icmp_eq (pc' := 25) (tgt := 31) d_Md_lacks_22 rfl (by decide) (fun hc4 => ?_) (fun hc4 => ?_)
    · have hf := brT hc4 hf
      refine J_iload_n (pc' := 32) d_Md_lacks_31 rfl 3 rfl ?_
      refine J_i2l (pc' := 33) d_Md_lacks_32 rfl ?_
      refine J_lconst (pc' := 34) (v := 0) d_Md_lacks_33 rfl lc_0 ?_
      refine J_aload_n (pc' := 35) d_Md_lacks_34 rfl 0 rfl ?_
      refine J_getR (pc' := 38) d_Md_lacks_35 rfl sh_66 fl_Md_13 rfl ?_
      refine J_iload_n (pc' := 39) d_Md_lacks_38 rfl 1 rfl ?_
      obtain ⟨hg5, hf⟩ := gdE hf
      refine J_ial (pc' := 40) d_Md_lacks_39 rfl sh_68 (vinP hg5) ?_
      refine J_iconst (pc' := 41) (v := 1) d_Md_lacks_40 rfl ic_1 ?_
      refine J_isub (pc' := 42) d_Md_lacks_41 rfl ?_
      refine J_i2l (pc' := 43) d_Md_lacks_42 rfl ?_
      refine J_S (pc' := 46) (as := [.long v3.toInt64, .long 0, .long (((σ.1 68 v1.toNatClampNeg) - 1).toInt64)]) (rest := []) (st' := [.int (f_Md_in v3.toInt64 0 (((σ.1 68 v1.toNatClampNeg) - 1).toInt64))]) d_Md_lacks_43 rfl ms_Md_73 (ct_Md_in V _ σ v3.toInt64 0 (((σ.1 68 v1.toNatClampNeg) - 1).toInt64)) rfl rfl ⟨Nat.le_of_ble_eq_true rfl, Nat.le_of_ble_eq_true rfl⟩ ⟨rfl, rfl⟩ (Nat.le_of_ble_eq_true rfl) rfl ?_
      refine J_if_eq (pc' := 49) (tgt := 53) d_Md_lacks_46 rfl (by decide) (fun hc6 => ?_) (fun hc6 => ?_)
      · have hf := brT hc6 hf
        refine J_aload_n (pc' := 54) d_Md_lacks_53 rfl 0 rfl ?_
        refine J_iconst (pc' := 55) (v := 2) d_Md_lacks_54 rfl ic_2 ?_
        obtain ⟨r9, σ8, hq7, hf⟩ := bdE hf
        refine J_V (pc' := 58) (as := [.int 2]) (rest := []) (st' := [.int r9]) d_Md_lacks_55 rfl sh_66 rfl mv_Md_93 (ct_Md_met V _ σ 2 hq7) rfl rfl ⟨Nat.le_of_ble_eq_true rfl, Nat.le_of_ble_eq_true rfl⟩ ⟨rfl, rfl⟩ (Nat.le_of_ble_eq_true rfl) rfl ?_
        obtain ⟨rfl, rfl⟩ := resE hf
        exact J_iret d_Md_lacks_58
      · have hf := brF hc6 hf
        refine J_iconst (pc' := 50) (v := 0) d_Md_lacks_49 rfl ic_0 ?_
        refine J_goto (tgt := 58) d_Md_lacks_50 (by decide) ?_
        obtain ⟨rfl, rfl⟩ := resE hf
        exact J_iret d_Md_lacks_58
    · have hf := brF hc4 hf
      refine J_aload_n (pc' := 26) d_Md_lacks_25 rfl 0 rfl ?_
      refine J_iconst (pc' := 27) (v := 3) d_Md_lacks_26 rfl ic_3 ?_
      obtain ⟨r12, σ11, hq10, hf⟩ := bdE hf
      refine J_V (pc' := 30) (as := [.int 3]) (rest := []) (st' := [.int r12]) d_Md_lacks_27 rfl sh_66 rfl mv_Md_93 (ct_Md_met V _ σ 3 hq10) rfl rfl ⟨Nat.le_of_ble_eq_true rfl, Nat.le_of_ble_eq_true rfl⟩ ⟨rfl, rfl⟩ (Nat.le_of_ble_eq_true rfl) rfl ?_
      obtain ⟨rfl, rfl⟩ := resE hf
      exact J_iret d_Md_lacks_30
  · have hf := brF hc2 hf
    refine J_aload_n (pc' := 10) d_Md_lacks_9 rfl 0 rfl ?_
    refine J_iconst (pc' := 11) (v := 1) d_Md_lacks_10 rfl ic_1 ?_
    obtain ⟨r15, σ14, hq13, hf⟩ := bdE hf
    refine J_V (pc' := 14) (as := [.int 1]) (rest := []) (st' := [.int r15]) d_Md_lacks_11 rfl sh_66 rfl mv_Md_93 (ct_Md_met V _ σ 1 hq13) rfl rfl ⟨Nat.le_of_ble_eq_true rfl, Nat.le_of_ble_eq_true rfl⟩ ⟨rfl, rfl⟩ (Nat.le_of_ble_eq_true rfl) rfl ?_
    obtain ⟨rfl, rfl⟩ := resE hf
    exact J_iret d_Md_lacks_14
theorem ct_Md_lacks (V : Vx) (l : Launch) (σ : Sg) (v1 : Int32) (v2 : Int32) (v3 : Int32) {r : Int32} {σ' : Sg} (hf : f_Md_lacks σ v1 v2 v3 = some (r, σ')) : Ct V l y_Md_lacks c_Md_lacks 4 (some .int) (k2_rm 1 25) [rf V 66, .int v1, .int v2, .int v3] σ (some (.int r)) σ' := Ct.ofJ (by decide +kernel) (Nat.le_of_ble_eq_true rfl) fun X _ => j_Md_lacks _ v1 v2 v3 hf
def f_Md_cutTo (v0 : Int32) (v1 : Int32) : Int32 :=
  if v0 = 0 then v1.toInt8.toInt32 else if v0 = 1 then v1.toInt16.toInt32 else v1
set_option maxHeartbeats 4000000 in
theorem j_Md_cutTo {V : Vx} {X : Xx} {r : Int32} (σ : Sg) (v0 : Int32) (v1 : Int32) (hf : f_Md_cutTo v0 v1 = r) : J V X (k2_rm 0 0) c_Md_cutTo R_Md 2 (some .int) (Qr V X (some (.int r)) σ) σ 0 [(0, .int v0), (1, .int v1)] [] := by
  unfold f_Md_cutTo at hf
  refine J_iload_n (pc' := 1) d_Md_cutTo_0 rfl 0 rfl ?_
  refine J_if_ne (pc' := 4) (tgt := 9) d_Md_cutTo_1 rfl (by decide) (fun hc1 => ?_) (fun hc1 => ?_)
  · have hf := brF hc1 hf
    refine J_iload_n (pc' := 10) d_Md_cutTo_9 rfl 0 rfl ?_
    refine J_iconst (pc' := 11) (v := 1) d_Md_cutTo_10 rfl ic_1 ?_
    refine J_icmp_ne (pc' := 14) (tgt := 19) d_Md_cutTo_11 rfl (by decide) (fun hc2 => ?_) (fun hc2 => ?_)
    · have hf := brF hc2 hf
      refine J_iload_n (pc' := 20) d_Md_cutTo_19 rfl 1 rfl ?_
      subst hf
      exact J_iret d_Md_cutTo_20
    · have hf := brT hc2 hf
      refine J_iload_n (pc' := 15) d_Md_cutTo_14 rfl 1 rfl ?_
      refine J_i2s (pc' := 16) d_Md_cutTo_15 rfl ?_
      refine J_goto (tgt := 20) d_Md_cutTo_16 (by decide) ?_
      subst hf
      exact J_iret d_Md_cutTo_20
  · have hf := brT hc1 hf
    refine J_iload_n (pc' := 5) d_Md_cutTo_4 rfl 1 rfl ?_
    refine J_i2b (pc' := 6) d_Md_cutTo_5 rfl ?_
    refine J_goto (tgt := 20) d_Md_cutTo_6 (by decide) ?_
    subst hf
    exact J_iret d_Md_cutTo_20
theorem ct_Md_cutTo (V : Vx) (l : Launch) (σ : Sg) (v0 : Int32) (v1 : Int32) : Ct V l y_Md_cutTo c_Md_cutTo 2 (some .int) (k2_rm 0 0) [.int v0, .int v1] σ (some (.int (f_Md_cutTo v0 v1))) σ := Ct.ofJ (by decide +kernel) (Nat.le_of_ble_eq_true rfl) fun X _ => j_Md_cutTo _ v0 v1 rfl
def f_Md_lay (σ : Sg) (v1 : Int32) (v2 : Int32) (v3 : Int32) (v4 : Int32) : Option (Int32 × Sg) :=
  if (f_Md_isSheet v1) = 0 then
    some ((-2), σ)
  else
    if (f_Md_in v2.toInt64 0 2) = 0 then
      some ((-2), σ)
    else
      bd (f_Md_lacks σ v1 v2 v3) fun r5 σ4 =>
        if r5 = 0 then
          gd (vin ((60 * v1) + v3) 240) (
            some (1, (pI σ4 69 ((60 * v1) + v3).toNatClampNeg (f_Md_cutTo v2 v4))))
        else
          some (r5, σ4)
set_option maxHeartbeats 4000000 in
theorem j_Md_lay {V : Vx} {X : Xx} {r : Int32} {σ' : Sg} (σ : Sg) (v1 : Int32) (v2 : Int32) (v3 : Int32) (v4 : Int32) (hf : f_Md_lay σ v1 v2 v3 v4 = some (r, σ')) : J V X (k2_rm 2 48) c_Md_lay R_Md 6 (some .int) (Qr V X (some (.int r)) σ') σ 0 [(0, rf V 66), (1, .int v1), (2, .int v2), (3, .int v3), (4, .int v4)] [] := by
  unfold f_Md_lay at hf
  refine J_iload_n (pc' := 1) d_Md_lay_0 rfl 1 rfl ?_
  refine J_S (pc' := 4) (as := [.int v1]) (rest := []) (st' := [.int (f_Md_isSheet v1)]) d_Md_lay_1 rfl ms_Md_87 (ct_Md_isSheet V _ σ v1) rfl rfl ⟨Nat.le_of_ble_eq_true rfl, Nat.le_of_ble_eq_true rfl⟩ ⟨rfl, rfl⟩ (Nat.le_of_ble_eq_true rfl) rfl ?_
  refine J_if_eq (pc' := 7) (tgt := 19) d_Md_lay_4 rfl (by decide) (fun hc1 => ?_) (fun hc1 => ?_)
  · have hf := brT hc1 hf
    refine J_bipush (pc' := 21) (v := (-2)) d_Md_lay_19 rfl bc_m2 ?_
    obtain ⟨rfl, rfl⟩ := resE hf
    exact J_iret d_Md_lay_21
  · have hf := brF hc1 hf
    refine J_iload_n (pc' := 8) d_Md_lay_7 rfl 2 rfl ?_
    refine J_i2l (pc' := 9) d_Md_lay_8 rfl ?_
    refine J_lconst (pc' := 10) (v := 0) d_Md_lay_9 rfl lc_0 ?_
    refine J_ldc2 (pc' := 13) (v := 2) d_Md_lay_10 rfl cw_Md_91 ?_
    refine J_S (pc' := 16) (as := [.long v2.toInt64, .long 0, .long 2]) (rest := []) (st' := [.int (f_Md_in v2.toInt64 0 2)]) d_Md_lay_13 rfl ms_Md_73 (ct_Md_in V _ σ v2.toInt64 0 2) rfl rfl ⟨Nat.le_of_ble_eq_true rfl, Nat.le_of_ble_eq_true rfl⟩ ⟨rfl, rfl⟩ (Nat.le_of_ble_eq_true rfl) rfl ?_
    refine J_if_ne (pc' := 19) (tgt := 22) d_Md_lay_16 rfl (by decide) (fun hc2 => ?_) (fun hc2 => ?_)
    · have hf := brF hc2 hf
      refine J_aload_n (pc' := 23) d_Md_lay_22 rfl 0 rfl ?_
      refine J_iload_n (pc' := 24) d_Md_lay_23 rfl 1 rfl ?_
      refine J_iload_n (pc' := 25) d_Md_lay_24 rfl 2 rfl ?_
      refine J_iload_n (pc' := 26) d_Md_lay_25 rfl 3 rfl ?_
      obtain ⟨r5, σ4, hq3, hf⟩ := bdE hf
      refine J_V (pc' := 29) (as := [.int v1, .int v2, .int v3]) (rest := []) (st' := [.int r5]) d_Md_lay_26 rfl sh_66 rfl mv_Md_97 (ct_Md_lacks V _ σ v1 v2 v3 hq3) rfl rfl ⟨Nat.le_of_ble_eq_true rfl, Nat.le_of_ble_eq_true rfl⟩ ⟨rfl, rfl⟩ (Nat.le_of_ble_eq_true rfl) rfl ?_
      refine J_istore (pc' := 31) (lv' := [(5, .int r5), (0, rf V 66), (1, .int v1), (2, .int v2), (3, .int v3), (4, .int v4)]) d_Md_lay_29 rfl (by decide) rfl ?_
      refine J_iload (pc' := 33) d_Md_lay_31 rfl 0 rfl ?_
      refine J_if_eq (pc' := 36) (tgt := 39) d_Md_lay_33 rfl (by decide) (fun hc6 => ?_) (fun hc6 => ?_)
      · have hf := brT hc6 hf
        refine J_aload_n (pc' := 40) d_Md_lay_39 rfl 1 rfl ?_
        refine J_getR (pc' := 43) d_Md_lay_40 rfl sh_66 fl_Md_16 rfl ?_
        refine J_bipush (pc' := 45) (v := 60) d_Md_lay_43 rfl bc_60 ?_
        refine J_iload_n (pc' := 46) d_Md_lay_45 rfl 2 rfl ?_
        refine J_imul (pc' := 47) d_Md_lay_46 rfl ?_
        refine J_iload_n (pc' := 48) d_Md_lay_47 rfl 4 rfl ?_
        refine J_iadd (pc' := 49) d_Md_lay_48 rfl ?_
        refine J_iload_n (pc' := 50) d_Md_lay_49 rfl 3 rfl ?_
        refine J_iload (pc' := 52) d_Md_lay_50 rfl 5 rfl ?_
        refine J_S (pc' := 55) (as := [.int v2, .int v4]) (rest := [.int ((60 * v1) + v3), rf V 69]) (st' := [.int (f_Md_cutTo v2 v4), .int ((60 * v1) + v3), rf V 69]) d_Md_lay_52 rfl ms_Md_101 (ct_Md_cutTo V _ σ4 v2 v4) rfl rfl ⟨Nat.le_of_ble_eq_true rfl, Nat.le_of_ble_eq_true rfl⟩ ⟨rfl, rfl⟩ (Nat.le_of_ble_eq_true rfl) rfl ?_
        obtain ⟨hg7, hf⟩ := gdE hf
        refine J_ias (pc' := 56) d_Md_lay_55 rfl sh_69 (vinP hg7) ?_
        refine J_iconst (pc' := 57) (v := 1) d_Md_lay_56 rfl ic_1 ?_
        obtain ⟨rfl, rfl⟩ := resE hf
        exact J_iret d_Md_lay_57
      · have hf := brF hc6 hf
        refine J_iload (pc' := 38) d_Md_lay_36 rfl 0 rfl ?_
        obtain ⟨rfl, rfl⟩ := resE hf
        exact J_iret d_Md_lay_38
    · have hf := brT hc2 hf
      refine J_bipush (pc' := 21) (v := (-2)) d_Md_lay_19 rfl bc_m2 ?_
      obtain ⟨rfl, rfl⟩ := resE hf
      exact J_iret d_Md_lay_21
theorem ct_Md_lay (V : Vx) (l : Launch) (σ : Sg) (v1 : Int32) (v2 : Int32) (v3 : Int32) (v4 : Int32) {r : Int32} {σ' : Sg} (hf : f_Md_lay σ v1 v2 v3 v4 = some (r, σ')) : Ct V l y_Md_lay c_Md_lay 6 (some .int) (k2_rm 2 48) [rf V 66, .int v1, .int v2, .int v3, .int v4] σ (some (.int r)) σ' := Ct.ofJ (by decide +kernel) (Nat.le_of_ble_eq_true rfl) fun X _ => j_Md_lay _ v1 v2 v3 v4 hf
def f_Md_get (σ : Sg) (v1 : Int32) (v2 : Int32) (v3 : Int32) : Option (Int32 × Sg) :=
  if (f_Md_isSheet v1) = 0 then
    some ((-2147483648), σ)
  else
    if (f_Md_in v2.toInt64 0 2) = 0 then
      some ((-2147483648), σ)
    else
      bd (f_Md_lacks σ v1 v2 v3) fun r5 σ4 =>
        if r5 = 0 then
          gd (vin ((60 * v1) + v3) 240) (
            some (σ4.1 69 ((60 * v1) + v3).toNatClampNeg, σ4))
        else
          some ((-2147483648), σ4)
set_option maxHeartbeats 4000000 in
theorem j_Md_get {V : Vx} {X : Xx} {r : Int32} {σ' : Sg} (σ : Sg) (v1 : Int32) (v2 : Int32) (v3 : Int32) (hf : f_Md_get σ v1 v2 v3 = some (r, σ')) : J V X (k2_rm 2 48) c_Md_get R_Md 4 (some .int) (Qr V X (some (.int r)) σ') σ 0 [(0, rf V 66), (1, .int v1), (2, .int v2), (3, .int v3)] [] := by
  unfold f_Md_get at hf
  refine J_iload_n (pc' := 1) d_Md_get_0 rfl 1 rfl ?_
  refine J_S (pc' := 4) (as := [.int v1]) (rest := []) (st' := [.int (f_Md_isSheet v1)]) d_Md_get_1 rfl ms_Md_87 (ct_Md_isSheet V _ σ v1) rfl rfl ⟨Nat.le_of_ble_eq_true rfl, Nat.le_of_ble_eq_true rfl⟩ ⟨rfl, rfl⟩ (Nat.le_of_ble_eq_true rfl) rfl ?_
  refine J_if_eq (pc' := 7) (tgt := 29) d_Md_get_4 rfl (by decide) (fun hc1 => ?_) (fun hc1 => ?_)
  · have hf := brT hc1 hf
    refine J_ldc (pc' := 31) (v := (-2147483648)) d_Md_get_29 rfl cw_Md_105 ?_
    obtain ⟨rfl, rfl⟩ := resE hf
    exact J_iret d_Md_get_31
  · have hf := brF hc1 hf
    refine J_iload_n (pc' := 8) d_Md_get_7 rfl 2 rfl ?_
    refine J_i2l (pc' := 9) d_Md_get_8 rfl ?_
    refine J_lconst (pc' := 10) (v := 0) d_Md_get_9 rfl lc_0 ?_
    refine J_ldc2 (pc' := 13) (v := 2) d_Md_get_10 rfl cw_Md_91 ?_
    refine J_S (pc' := 16) (as := [.long v2.toInt64, .long 0, .long 2]) (rest := []) (st' := [.int (f_Md_in v2.toInt64 0 2)]) d_Md_get_13 rfl ms_Md_73 (ct_Md_in V _ σ v2.toInt64 0 2) rfl rfl ⟨Nat.le_of_ble_eq_true rfl, Nat.le_of_ble_eq_true rfl⟩ ⟨rfl, rfl⟩ (Nat.le_of_ble_eq_true rfl) rfl ?_
    refine J_if_eq (pc' := 19) (tgt := 29) d_Md_get_16 rfl (by decide) (fun hc2 => ?_) (fun hc2 => ?_)
    · have hf := brT hc2 hf
      refine J_ldc (pc' := 31) (v := (-2147483648)) d_Md_get_29 rfl cw_Md_105 ?_
      obtain ⟨rfl, rfl⟩ := resE hf
      exact J_iret d_Md_get_31
    · have hf := brF hc2 hf
      refine J_aload_n (pc' := 20) d_Md_get_19 rfl 0 rfl ?_
      refine J_iload_n (pc' := 21) d_Md_get_20 rfl 1 rfl ?_
      refine J_iload_n (pc' := 22) d_Md_get_21 rfl 2 rfl ?_
      refine J_iload_n (pc' := 23) d_Md_get_22 rfl 3 rfl ?_
      obtain ⟨r5, σ4, hq3, hf⟩ := bdE hf
      refine J_V (pc' := 26) (as := [.int v1, .int v2, .int v3]) (rest := []) (st' := [.int r5]) d_Md_get_23 rfl sh_66 rfl mv_Md_97 (ct_Md_lacks V _ σ v1 v2 v3 hq3) rfl rfl ⟨Nat.le_of_ble_eq_true rfl, Nat.le_of_ble_eq_true rfl⟩ ⟨rfl, rfl⟩ (Nat.le_of_ble_eq_true rfl) rfl ?_
      refine J_if_eq (pc' := 29) (tgt := 32) d_Md_get_26 rfl (by decide) (fun hc6 => ?_) (fun hc6 => ?_)
      · have hf := brT hc6 hf
        refine J_aload_n (pc' := 33) d_Md_get_32 rfl 0 rfl ?_
        refine J_getR (pc' := 36) d_Md_get_33 rfl sh_66 fl_Md_16 rfl ?_
        refine J_bipush (pc' := 38) (v := 60) d_Md_get_36 rfl bc_60 ?_
        refine J_iload_n (pc' := 39) d_Md_get_38 rfl 1 rfl ?_
        refine J_imul (pc' := 40) d_Md_get_39 rfl ?_
        refine J_iload_n (pc' := 41) d_Md_get_40 rfl 3 rfl ?_
        refine J_iadd (pc' := 42) d_Md_get_41 rfl ?_
        obtain ⟨hg7, hf⟩ := gdE hf
        refine J_ial (pc' := 43) d_Md_get_42 rfl sh_69 (vinP hg7) ?_
        obtain ⟨rfl, rfl⟩ := resE hf
        exact J_iret d_Md_get_43
      · have hf := brF hc6 hf
        refine J_ldc (pc' := 31) (v := (-2147483648)) d_Md_get_29 rfl cw_Md_105 ?_
        obtain ⟨rfl, rfl⟩ := resE hf
        exact J_iret d_Md_get_31
theorem ct_Md_get (V : Vx) (l : Launch) (σ : Sg) (v1 : Int32) (v2 : Int32) (v3 : Int32) {r : Int32} {σ' : Sg} (hf : f_Md_get σ v1 v2 v3 = some (r, σ')) : Ct V l y_Md_get c_Md_get 4 (some .int) (k2_rm 2 48) [rf V 66, .int v1, .int v2, .int v3] σ (some (.int r)) σ' := Ct.ofJ (by decide +kernel) (Nat.le_of_ble_eq_true rfl) fun X _ => j_Md_get _ v1 v2 v3 hf
