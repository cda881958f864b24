theorem d_Md_digest_0 : decode c_Md_digest 0 = .ok (.ldc2_w 322, 3) := by decide +kernel
theorem d_Md_digest_3 : decode c_Md_digest 3 = .ok (.lstore_n 1, 1) := by decide +kernel
theorem d_Md_digest_4 : decode c_Md_digest 4 = .ok (.iconst 0, 1) := by decide +kernel
theorem d_Md_digest_5 : decode c_Md_digest 5 = .ok (.istore_n 3, 1) := by decide +kernel
theorem d_Md_digest_6 : decode c_Md_digest 6 = .ok (.iload_n 3, 1) := by decide +kernel
theorem d_Md_digest_7 : decode c_Md_digest 7 = .ok (.bipush 8, 2) := by decide +kernel
theorem d_Md_digest_9 : decode c_Md_digest 9 = .ok (.if_icmp .ge 22, 3) := by decide +kernel
theorem d_Md_digest_12 : decode c_Md_digest 12 = .ok (.ldc2_w 324, 3) := by decide +kernel
theorem d_Md_digest_15 : decode c_Md_digest 15 = .ok (.lload_n 1, 1) := by decide +kernel
theorem d_Md_digest_16 : decode c_Md_digest 16 = .ok (.lmul, 1) := by decide +kernel
theorem d_Md_digest_17 : decode c_Md_digest 17 = .ok (.aload_n 0, 1) := by decide +kernel
theorem d_Md_digest_18 : decode c_Md_digest 18 = .ok (.iload_n 3, 1) := by decide +kernel
theorem d_Md_digest_19 : decode c_Md_digest 19 = .ok (.invokevirtual 326, 3) := by decide +kernel
theorem d_Md_digest_22 : decode c_Md_digest 22 = .ok (.i2l, 1) := by decide +kernel
theorem d_Md_digest_23 : decode c_Md_digest 23 = .ok (.ladd, 1) := by decide +kernel
theorem d_Md_digest_24 : decode c_Md_digest 24 = .ok (.lstore_n 1, 1) := by decide +kernel
theorem d_Md_digest_25 : decode c_Md_digest 25 = .ok (.iinc 3 1, 3) := by decide +kernel
theorem d_Md_digest_28 : decode c_Md_digest 28 = .ok (.goto (-22), 3) := by decide +kernel
theorem d_Md_digest_31 : decode c_Md_digest 31 = .ok (.ldc2_w 324, 3) := by decide +kernel
theorem d_Md_digest_34 : decode c_Md_digest 34 = .ok (.lload_n 1, 1) := by decide +kernel
theorem d_Md_digest_35 : decode c_Md_digest 35 = .ok (.lmul, 1) := by decide +kernel
theorem d_Md_digest_36 : decode c_Md_digest 36 = .ok (.aload_n 0, 1) := by decide +kernel
theorem d_Md_digest_37 : decode c_Md_digest 37 = .ok (.invokevirtual 131, 3) := by decide +kernel
theorem d_Md_digest_40 : decode c_Md_digest 40 = .ok (.i2l, 1) := by decide +kernel
theorem d_Md_digest_41 : decode c_Md_digest 41 = .ok (.ladd, 1) := by decide +kernel
theorem d_Md_digest_42 : decode c_Md_digest 42 = .ok (.lstore_n 1, 1) := by decide +kernel
theorem d_Md_digest_43 : decode c_Md_digest 43 = .ok (.ldc2_w 324, 3) := by decide +kernel
theorem d_Md_digest_46 : decode c_Md_digest 46 = .ok (.lload_n 1, 1) := by decide +kernel
theorem d_Md_digest_47 : decode c_Md_digest 47 = .ok (.lmul, 1) := by decide +kernel
theorem d_Md_digest_48 : decode c_Md_digest 48 = .ok (.aload_n 0, 1) := by decide +kernel
theorem d_Md_digest_49 : decode c_Md_digest 49 = .ok (.invokevirtual 137, 3) := by decide +kernel
theorem d_Md_digest_52 : decode c_Md_digest 52 = .ok (.i2l, 1) := by decide +kernel
theorem d_Md_digest_53 : decode c_Md_digest 53 = .ok (.ladd, 1) := by decide +kernel
theorem d_Md_digest_54 : decode c_Md_digest 54 = .ok (.lstore_n 1, 1) := by decide +kernel
theorem d_Md_digest_55 : decode c_Md_digest 55 = .ok (.iconst 0, 1) := by decide +kernel
theorem d_Md_digest_56 : decode c_Md_digest 56 = .ok (.istore_n 3, 1) := by decide +kernel
theorem d_Md_digest_57 : decode c_Md_digest 57 = .ok (.iload_n 3, 1) := by decide +kernel
theorem d_Md_digest_58 : decode c_Md_digest 58 = .ok (.aload_n 0, 1) := by decide +kernel
theorem d_Md_digest_59 : decode c_Md_digest 59 = .ok (.getfield 114, 3) := by decide +kernel
theorem d_Md_digest_62 : decode c_Md_digest 62 = .ok (.if_icmp .ge 132, 3) := by decide +kernel
theorem d_Md_digest_65 : decode c_Md_digest 65 = .ok (.iconst 0, 1) := by decide +kernel
theorem d_Md_digest_66 : decode c_Md_digest 66 = .ok (.istore 4, 2) := by decide +kernel
theorem d_Md_digest_68 : decode c_Md_digest 68 = .ok (.iload 4, 2) := by decide +kernel
theorem d_Md_digest_70 : decode c_Md_digest 70 = .ok (.bipush 7, 2) := by decide +kernel
theorem d_Md_digest_72 : decode c_Md_digest 72 = .ok (.if_icmp .ge 24, 3) := by decide +kernel
theorem d_Md_digest_75 : decode c_Md_digest 75 = .ok (.ldc2_w 324, 3) := by decide +kernel
theorem d_Md_digest_78 : decode c_Md_digest 78 = .ok (.lload_n 1, 1) := by decide +kernel
theorem d_Md_digest_79 : decode c_Md_digest 79 = .ok (.lmul, 1) := by decide +kernel
theorem d_Md_digest_80 : decode c_Md_digest 80 = .ok (.aload_n 0, 1) := by decide +kernel
theorem d_Md_digest_81 : decode c_Md_digest 81 = .ok (.iload_n 3, 1) := by decide +kernel
theorem d_Md_digest_82 : decode c_Md_digest 82 = .ok (.iload 4, 2) := by decide +kernel
theorem d_Md_digest_84 : decode c_Md_digest 84 = .ok (.invokevirtual 148, 3) := by decide +kernel
theorem d_Md_digest_87 : decode c_Md_digest 87 = .ok (.i2l, 1) := by decide +kernel
theorem d_Md_digest_88 : decode c_Md_digest 88 = .ok (.ladd, 1) := by decide +kernel
theorem d_Md_digest_89 : decode c_Md_digest 89 = .ok (.lstore_n 1, 1) := by decide +kernel
theorem d_Md_digest_90 : decode c_Md_digest 90 = .ok (.iinc 4 1, 3) := by decide +kernel
theorem d_Md_digest_93 : decode c_Md_digest 93 = .ok (.goto (-25), 3) := by decide +kernel
theorem d_Md_digest_96 : decode c_Md_digest 96 = .ok (.ldc2_w 324, 3) := by decide +kernel
theorem d_Md_digest_99 : decode c_Md_digest 99 = .ok (.lload_n 1, 1) := by decide +kernel
theorem d_Md_digest_100 : decode c_Md_digest 100 = .ok (.lmul, 1) := by decide +kernel
theorem d_Md_digest_101 : decode c_Md_digest 101 = .ok (.aload_n 0, 1) := by decide +kernel
theorem d_Md_digest_102 : decode c_Md_digest 102 = .ok (.iload_n 3, 1) := by decide +kernel
theorem d_Md_digest_103 : decode c_Md_digest 103 = .ok (.iconst 0, 1) := by decide +kernel
theorem d_Md_digest_104 : decode c_Md_digest 104 = .ok (.invokevirtual 246, 3) := by decide +kernel
theorem d_Md_digest_107 : decode c_Md_digest 107 = .ok (.i2l, 1) := by decide +kernel
theorem d_Md_digest_108 : decode c_Md_digest 108 = .ok (.ladd, 1) := by decide +kernel
theorem d_Md_digest_109 : decode c_Md_digest 109 = .ok (.lstore_n 1, 1) := by decide +kernel
theorem d_Md_digest_110 : decode c_Md_digest 110 = .ok (.ldc2_w 324, 3) := by decide +kernel
theorem d_Md_digest_113 : decode c_Md_digest 113 = .ok (.lload_n 1, 1) := by decide +kernel
theorem d_Md_digest_114 : decode c_Md_digest 114 = .ok (.lmul, 1) := by decide +kernel
theorem d_Md_digest_115 : decode c_Md_digest 115 = .ok (.aload_n 0, 1) := by decide +kernel
theorem d_Md_digest_116 : decode c_Md_digest 116 = .ok (.iload_n 3, 1) := by decide +kernel
theorem d_Md_digest_117 : decode c_Md_digest 117 = .ok (.iconst 1, 1) := by decide +kernel
theorem d_Md_digest_118 : decode c_Md_digest 118 = .ok (.invokevirtual 246, 3) := by decide +kernel
theorem d_Md_digest_121 : decode c_Md_digest 121 = .ok (.i2l, 1) := by decide +kernel
theorem d_Md_digest_122 : decode c_Md_digest 122 = .ok (.ladd, 1) := by decide +kernel
theorem d_Md_digest_123 : decode c_Md_digest 123 = .ok (.lstore_n 1, 1) := by decide +kernel
theorem d_Md_digest_124 : decode c_Md_digest 124 = .ok (.ldc2_w 324, 3) := by decide +kernel
theorem d_Md_digest_127 : decode c_Md_digest 127 = .ok (.lload_n 1, 1) := by decide +kernel
theorem d_Md_digest_128 : decode c_Md_digest 128 = .ok (.lmul, 1) := by decide +kernel
theorem d_Md_digest_129 : decode c_Md_digest 129 = .ok (.aload_n 0, 1) := by decide +kernel
theorem d_Md_digest_130 : decode c_Md_digest 130 = .ok (.iload_n 3, 1) := by decide +kernel
theorem d_Md_digest_131 : decode c_Md_digest 131 = .ok (.invokevirtual 291, 3) := by decide +kernel
theorem d_Md_digest_134 : decode c_Md_digest 134 = .ok (.i2l, 1) := by decide +kernel
theorem d_Md_digest_135 : decode c_Md_digest 135 = .ok (.ladd, 1) := by decide +kernel
theorem d_Md_digest_136 : decode c_Md_digest 136 = .ok (.lstore_n 1, 1) := by decide +kernel
theorem d_Md_digest_137 : decode c_Md_digest 137 = .ok (.iconst 0, 1) := by decide +kernel
theorem d_Md_digest_138 : decode c_Md_digest 138 = .ok (.istore 4, 2) := by decide +kernel
theorem d_Md_digest_140 : decode c_Md_digest 140 = .ok (.iload 4, 2) := by decide +kernel
theorem d_Md_digest_142 : decode c_Md_digest 142 = .ok (.iconst 4, 1) := by decide +kernel
theorem d_Md_digest_143 : decode c_Md_digest 143 = .ok (.if_icmp .ge 45, 3) := by decide +kernel
theorem d_Md_digest_146 : decode c_Md_digest 146 = .ok (.aload_n 0, 1) := by decide +kernel
theorem d_Md_digest_147 : decode c_Md_digest 147 = .ok (.getfield 114, 3) := by decide +kernel
theorem d_Md_digest_150 : decode c_Md_digest 150 = .ok (.iconst 1, 1) := by decide +kernel
theorem d_Md_digest_151 : decode c_Md_digest 151 = .ok (.if_icmp .le 37, 3) := by decide +kernel
theorem d_Md_digest_154 : decode c_Md_digest 154 = .ok (.ldc2_w 324, 3) := by decide +kernel
theorem d_Md_digest_157 : decode c_Md_digest 157 = .ok (.lload_n 1, 1) := by decide +kernel
theorem d_Md_digest_158 : decode c_Md_digest 158 = .ok (.lmul, 1) := by decide +kernel
theorem d_Md_digest_159 : decode c_Md_digest 159 = .ok (.aload_n 0, 1) := by decide +kernel
theorem d_Md_digest_160 : decode c_Md_digest 160 = .ok (.iload_n 3, 1) := by decide +kernel
theorem d_Md_digest_161 : decode c_Md_digest 161 = .ok (.iload_n 3, 1) := by decide +kernel
theorem d_Md_digest_162 : decode c_Md_digest 162 = .ok (.iconst 1, 1) := by decide +kernel
theorem d_Md_digest_163 : decode c_Md_digest 163 = .ok (.iadd, 1) := by decide +kernel
theorem d_Md_digest_164 : decode c_Md_digest 164 = .ok (.aload_n 0, 1) := by decide +kernel
theorem d_Md_digest_165 : decode c_Md_digest 165 = .ok (.getfield 114, 3) := by decide +kernel
theorem d_Md_digest_168 : decode c_Md_digest 168 = .ok (.irem, 1) := by decide +kernel
theorem d_Md_digest_169 : decode c_Md_digest 169 = .ok (.iload 4, 2) := by decide +kernel
theorem d_Md_digest_171 : decode c_Md_digest 171 = .ok (.iconst 2, 1) := by decide +kernel
theorem d_Md_digest_172 : decode c_Md_digest 172 = .ok (.idiv, 1) := by decide +kernel
theorem d_Md_digest_173 : decode c_Md_digest 173 = .ok (.iload 4, 2) := by decide +kernel
theorem d_Md_digest_175 : decode c_Md_digest 175 = .ok (.iconst 2, 1) := by decide +kernel
theorem d_Md_digest_176 : decode c_Md_digest 176 = .ok (.irem, 1) := by decide +kernel
theorem d_Md_digest_177 : decode c_Md_digest 177 = .ok (.invokevirtual 182, 3) := by decide +kernel
theorem d_Md_digest_180 : decode c_Md_digest 180 = .ok (.ladd, 1) := by decide +kernel
theorem d_Md_digest_181 : decode c_Md_digest 181 = .ok (.lstore_n 1, 1) := by decide +kernel
theorem d_Md_digest_182 : decode c_Md_digest 182 = .ok (.iinc 4 1, 3) := by decide +kernel
theorem d_Md_digest_185 : decode c_Md_digest 185 = .ok (.goto (-45), 3) := by decide +kernel
theorem d_Md_digest_188 : decode c_Md_digest 188 = .ok (.iinc 3 1, 3) := by decide +kernel
theorem d_Md_digest_191 : decode c_Md_digest 191 = .ok (.goto (-134), 3) := by decide +kernel
theorem d_Md_digest_194 : decode c_Md_digest 194 = .ok (.aload_n 0, 1) := by decide +kernel
theorem d_Md_digest_195 : decode c_Md_digest 195 = .ok (.invokevirtual 243, 3) := by decide +kernel
theorem d_Md_digest_198 : decode c_Md_digest 198 = .ok (.iconst 0, 1) := by decide +kernel
theorem d_Md_digest_199 : decode c_Md_digest 199 = .ok (.istore_n 3, 1) := by decide +kernel
theorem d_Md_digest_200 : decode c_Md_digest 200 = .ok (.iload_n 3, 1) := by decide +kernel
theorem d_Md_digest_201 : decode c_Md_digest 201 = .ok (.aload_n 0, 1) := by decide +kernel
theorem d_Md_digest_202 : decode c_Md_digest 202 = .ok (.getfield 209, 3) := by decide +kernel
theorem d_Md_digest_205 : decode c_Md_digest 205 = .ok (.if_icmp .ge 35, 3) := by decide +kernel
theorem d_Md_digest_208 : decode c_Md_digest 208 = .ok (.ldc2_w 324, 3) := by decide +kernel
theorem d_Md_digest_211 : decode c_Md_digest 211 = .ok (.lload_n 1, 1) := by decide +kernel
theorem d_Md_digest_212 : decode c_Md_digest 212 = .ok (.lmul, 1) := by decide +kernel
theorem d_Md_digest_213 : decode c_Md_digest 213 = .ok (.aload_n 0, 1) := by decide +kernel
theorem d_Md_digest_214 : decode c_Md_digest 214 = .ok (.iload_n 3, 1) := by decide +kernel
theorem d_Md_digest_215 : decode c_Md_digest 215 = .ok (.invokevirtual 219, 3) := by decide +kernel
theorem d_Md_digest_218 : decode c_Md_digest 218 = .ok (.ifCond .eq 12, 3) := by decide +kernel
theorem d_Md_digest_221 : decode c_Md_digest 221 = .ok (.aload_n 0, 1) := by decide +kernel
theorem d_Md_digest_222 : decode c_Md_digest 222 = .ok (.getfield 40, 3) := by decide +kernel
theorem d_Md_digest_225 : decode c_Md_digest 225 = .ok (.iload_n 3, 1) := by decide +kernel
theorem d_Md_digest_226 : decode c_Md_digest 226 = .ok (.iaload, 1) := by decide +kernel
theorem d_Md_digest_227 : decode c_Md_digest 227 = .ok (.goto 4, 3) := by decide +kernel
theorem d_Md_digest_230 : decode c_Md_digest 230 = .ok (.iconst (-1), 1) := by decide +kernel
theorem d_Md_digest_231 : decode c_Md_digest 231 = .ok (.i2l, 1) := by decide +kernel
theorem d_Md_digest_232 : decode c_Md_digest 232 = .ok (.ladd, 1) := by decide +kernel
theorem d_Md_digest_233 : decode c_Md_digest 233 = .ok (.lstore_n 1, 1) := by decide +kernel
theorem d_Md_digest_234 : decode c_Md_digest 234 = .ok (.iinc 3 1, 3) := by decide +kernel
theorem d_Md_digest_237 : decode c_Md_digest 237 = .ok (.goto (-37), 3) := by decide +kernel
theorem d_Md_digest_240 : decode c_Md_digest 240 = .ok (.ldc2_w 324, 3) := by decide +kernel
theorem d_Md_digest_243 : decode c_Md_digest 243 = .ok (.lload_n 1, 1) := by decide +kernel
theorem d_Md_digest_244 : decode c_Md_digest 244 = .ok (.lmul, 1) := by decide +kernel
theorem d_Md_digest_245 : decode c_Md_digest 245 = .ok (.aload_n 0, 1) := by decide +kernel
theorem d_Md_digest_246 : decode c_Md_digest 246 = .ok (.invokevirtual 329, 3) := by decide +kernel
theorem d_Md_digest_249 : decode c_Md_digest 249 = .ok (.i2l, 1) := by decide +kernel
theorem d_Md_digest_250 : decode c_Md_digest 250 = .ok (.ladd, 1) := by decide +kernel
theorem d_Md_digest_251 : decode c_Md_digest 251 = .ok (.lstore_n 1, 1) := by decide +kernel
theorem d_Md_digest_252 : decode c_Md_digest 252 = .ok (.ldc2_w 324, 3) := by decide +kernel
theorem d_Md_digest_255 : decode c_Md_digest 255 = .ok (.lload_n 1, 1) := by decide +kernel
theorem d_Md_digest_256 : decode c_Md_digest 256 = .ok (.lmul, 1) := by decide +kernel
theorem d_Md_digest_257 : decode c_Md_digest 257 = .ok (.aload_n 0, 1) := by decide +kernel
theorem d_Md_digest_258 : decode c_Md_digest 258 = .ok (.invokevirtual 249, 3) := by decide +kernel
theorem d_Md_digest_261 : decode c_Md_digest 261 = .ok (.i2l, 1) := by decide +kernel
theorem d_Md_digest_262 : decode c_Md_digest 262 = .ok (.ladd, 1) := by decide +kernel
theorem d_Md_digest_263 : decode c_Md_digest 263 = .ok (.lstore_n 1, 1) := by decide +kernel
theorem d_Md_digest_264 : decode c_Md_digest 264 = .ok (.ldc2_w 324, 3) := by decide +kernel
theorem d_Md_digest_267 : decode c_Md_digest 267 = .ok (.lload_n 1, 1) := by decide +kernel
theorem d_Md_digest_268 : decode c_Md_digest 268 = .ok (.lmul, 1) := by decide +kernel
theorem d_Md_digest_269 : decode c_Md_digest 269 = .ok (.aload_n 0, 1) := by decide +kernel
theorem d_Md_digest_270 : decode c_Md_digest 270 = .ok (.bipush 7, 2) := by decide +kernel
theorem d_Md_digest_272 : decode c_Md_digest 272 = .ok (.invokevirtual 332, 3) := by decide +kernel
theorem d_Md_digest_275 : decode c_Md_digest 275 = .ok (.i2l, 1) := by decide +kernel
theorem d_Md_digest_276 : decode c_Md_digest 276 = .ok (.ladd, 1) := by decide +kernel
theorem d_Md_digest_277 : decode c_Md_digest 277 = .ok (.lstore_n 1, 1) := by decide +kernel
theorem d_Md_digest_278 : decode c_Md_digest 278 = .ok (.aload_n 0, 1) := by decide +kernel
theorem d_Md_digest_279 : decode c_Md_digest 279 = .ok (.aload_n 0, 1) := by decide +kernel
theorem d_Md_digest_280 : decode c_Md_digest 280 = .ok (.getfield 114, 3) := by decide +kernel
theorem d_Md_digest_283 : decode c_Md_digest 283 = .ok (.iconst (-1), 1) := by decide +kernel
theorem d_Md_digest_284 : decode c_Md_digest 284 = .ok (.invokevirtual 288, 3) := by decide +kernel
theorem d_Md_digest_287 : decode c_Md_digest 287 = .ok (.ldc2_w 324, 3) := by decide +kernel
theorem d_Md_digest_290 : decode c_Md_digest 290 = .ok (.lload_n 1, 1) := by decide +kernel
theorem d_Md_digest_291 : decode c_Md_digest 291 = .ok (.lmul, 1) := by decide +kernel
theorem d_Md_digest_292 : decode c_Md_digest 292 = .ok (.aload_n 0, 1) := by decide +kernel
theorem d_Md_digest_293 : decode c_Md_digest 293 = .ok (.getfield 270, 3) := by decide +kernel
theorem d_Md_digest_296 : decode c_Md_digest 296 = .ok (.i2l, 1) := by decide +kernel
theorem d_Md_digest_297 : decode c_Md_digest 297 = .ok (.ladd, 1) := by decide +kernel
theorem d_Md_digest_298 : decode c_Md_digest 298 = .ok (.lstore_n 1, 1) := by decide +kernel
theorem d_Md_digest_299 : decode c_Md_digest 299 = .ok (.ldc2_w 324, 3) := by decide +kernel
theorem d_Md_digest_302 : decode c_Md_digest 302 = .ok (.lload_n 1, 1) := by decide +kernel
theorem d_Md_digest_303 : decode c_Md_digest 303 = .ok (.lmul, 1) := by decide +kernel
theorem d_Md_digest_304 : decode c_Md_digest 304 = .ok (.aload_n 0, 1) := by decide +kernel
theorem d_Md_digest_305 : decode c_Md_digest 305 = .ok (.getfield 273, 3) := by decide +kernel
theorem d_Md_digest_308 : decode c_Md_digest 308 = .ok (.i2l, 1) := by decide +kernel
theorem d_Md_digest_309 : decode c_Md_digest 309 = .ok (.ladd, 1) := by decide +kernel
theorem d_Md_digest_310 : decode c_Md_digest 310 = .ok (.lstore_n 1, 1) := by decide +kernel
theorem d_Md_digest_311 : decode c_Md_digest 311 = .ok (.iconst 0, 1) := by decide +kernel
theorem d_Md_digest_312 : decode c_Md_digest 312 = .ok (.istore_n 3, 1) := by decide +kernel
theorem d_Md_digest_313 : decode c_Md_digest 313 = .ok (.iload_n 3, 1) := by decide +kernel
theorem d_Md_digest_314 : decode c_Md_digest 314 = .ok (.aload_n 0, 1) := by decide +kernel
theorem d_Md_digest_315 : decode c_Md_digest 315 = .ok (.getfield 259, 3) := by decide +kernel
theorem d_Md_digest_318 : decode c_Md_digest 318 = .ok (.if_icmp .ge 35, 3) := by decide +kernel
theorem d_Md_digest_321 : decode c_Md_digest 321 = .ok (.ldc2_w 324, 3) := by decide +kernel
theorem d_Md_digest_324 : decode c_Md_digest 324 = .ok (.lload_n 1, 1) := by decide +kernel
theorem d_Md_digest_325 : decode c_Md_digest 325 = .ok (.lmul, 1) := by decide +kernel
theorem d_Md_digest_326 : decode c_Md_digest 326 = .ok (.aload_n 0, 1) := by decide +kernel
theorem d_Md_digest_327 : decode c_Md_digest 327 = .ok (.getfield 270, 3) := by decide +kernel
theorem d_Md_digest_330 : decode c_Md_digest 330 = .ok (.iconst (-1), 1) := by decide +kernel
theorem d_Md_digest_331 : decode c_Md_digest 331 = .ok (.if_icmp .ne 7, 3) := by decide +kernel
theorem d_Md_digest_334 : decode c_Md_digest 334 = .ok (.iconst (-1), 1) := by decide +kernel
theorem d_Md_digest_335 : decode c_Md_digest 335 = .ok (.goto 9, 3) := by decide +kernel
theorem d_Md_digest_338 : decode c_Md_digest 338 = .ok (.aload_n 0, 1) := by decide +kernel
theorem d_Md_digest_339 : decode c_Md_digest 339 = .ok (.getfield 52, 3) := by decide +kernel
theorem d_Md_digest_342 : decode c_Md_digest 342 = .ok (.iload_n 3, 1) := by decide +kernel
theorem d_Md_digest_343 : decode c_Md_digest 343 = .ok (.iaload, 1) := by decide +kernel
theorem d_Md_digest_344 : decode c_Md_digest 344 = .ok (.i2l, 1) := by decide +kernel
theorem d_Md_digest_345 : decode c_Md_digest 345 = .ok (.ladd, 1) := by decide +kernel
theorem d_Md_digest_346 : decode c_Md_digest 346 = .ok (.lstore_n 1, 1) := by decide +kernel
theorem d_Md_digest_347 : decode c_Md_digest 347 = .ok (.iinc 3 1, 3) := by decide +kernel
theorem d_Md_digest_350 : decode c_Md_digest 350 = .ok (.goto (-37), 3) := by decide +kernel
theorem d_Md_digest_353 : decode c_Md_digest 353 = .ok (.ldc2_w 324, 3) := by decide +kernel
theorem d_Md_digest_356 : decode c_Md_digest 356 = .ok (.lload_n 1, 1) := by decide +kernel
theorem d_Md_digest_357 : decode c_Md_digest 357 = .ok (.lmul, 1) := by decide +kernel
theorem d_Md_digest_358 : decode c_Md_digest 358 = .ok (.aload_n 0, 1) := by decide +kernel
theorem d_Md_digest_359 : decode c_Md_digest 359 = .ok (.invokevirtual 294, 3) := by decide +kernel
theorem d_Md_digest_362 : decode c_Md_digest 362 = .ok (.i2l, 1) := by decide +kernel
theorem d_Md_digest_363 : decode c_Md_digest 363 = .ok (.ladd, 1) := by decide +kernel
theorem d_Md_digest_364 : decode c_Md_digest 364 = .ok (.lstore_n 1, 1) := by decide +kernel
theorem d_Md_digest_365 : decode c_Md_digest 365 = .ok (.aload_n 0, 1) := by decide +kernel
theorem d_Md_digest_366 : decode c_Md_digest 366 = .ok (.iconst 0, 1) := by decide +kernel
theorem d_Md_digest_367 : decode c_Md_digest 367 = .ok (.bipush 9, 2) := by decide +kernel
theorem d_Md_digest_369 : decode c_Md_digest 369 = .ok (.iconst 1, 1) := by decide +kernel
theorem d_Md_digest_370 : decode c_Md_digest 370 = .ok (.invokevirtual 306, 3) := by decide +kernel
theorem d_Md_digest_373 : decode c_Md_digest 373 = .ok (.ldc2_w 324, 3) := by decide +kernel
theorem d_Md_digest_376 : decode c_Md_digest 376 = .ok (.lload_n 1, 1) := by decide +kernel
theorem d_Md_digest_377 : decode c_Md_digest 377 = .ok (.lmul, 1) := by decide +kernel
theorem d_Md_digest_378 : decode c_Md_digest 378 = .ok (.aload_n 0, 1) := by decide +kernel
theorem d_Md_digest_379 : decode c_Md_digest 379 = .ok (.getfield 297, 3) := by decide +kernel
theorem d_Md_digest_382 : decode c_Md_digest 382 = .ok (.i2l, 1) := by decide +kernel
theorem d_Md_digest_383 : decode c_Md_digest 383 = .ok (.ladd, 1) := by decide +kernel
theorem d_Md_digest_384 : decode c_Md_digest 384 = .ok (.lstore_n 1, 1) := by decide +kernel
theorem d_Md_digest_385 : decode c_Md_digest 385 = .ok (.ldc2_w 324, 3) := by decide +kernel
theorem d_Md_digest_388 : decode c_Md_digest 388 = .ok (.lload_n 1, 1) := by decide +kernel
theorem d_Md_digest_389 : decode c_Md_digest 389 = .ok (.lmul, 1) := by decide +kernel
theorem d_Md_digest_390 : decode c_Md_digest 390 = .ok (.aload_n 0, 1) := by decide +kernel
theorem d_Md_digest_391 : decode c_Md_digest 391 = .ok (.getfield 300, 3) := by decide +kernel
theorem d_Md_digest_394 : decode c_Md_digest 394 = .ok (.i2l, 1) := by decide +kernel
theorem d_Md_digest_395 : decode c_Md_digest 395 = .ok (.ladd, 1) := by decide +kernel
theorem d_Md_digest_396 : decode c_Md_digest 396 = .ok (.lstore_n 1, 1) := by decide +kernel
theorem d_Md_digest_397 : decode c_Md_digest 397 = .ok (.ldc2_w 324, 3) := by decide +kernel
theorem d_Md_digest_400 : decode c_Md_digest 400 = .ok (.lload_n 1, 1) := by decide +kernel
theorem d_Md_digest_401 : decode c_Md_digest 401 = .ok (.lmul, 1) := by decide +kernel
theorem d_Md_digest_402 : decode c_Md_digest 402 = .ok (.aload_n 0, 1) := by decide +kernel
theorem d_Md_digest_403 : decode c_Md_digest 403 = .ok (.getfield 303, 3) := by decide +kernel
theorem d_Md_digest_406 : decode c_Md_digest 406 = .ok (.i2l, 1) := by decide +kernel
theorem d_Md_digest_407 : decode c_Md_digest 407 = .ok (.ladd, 1) := by decide +kernel
theorem d_Md_digest_408 : decode c_Md_digest 408 = .ok (.lstore_n 1, 1) := by decide +kernel
theorem d_Md_digest_409 : decode c_Md_digest 409 = .ok (.aload_n 0, 1) := by decide +kernel
theorem d_Md_digest_410 : decode c_Md_digest 410 = .ok (.invokevirtual 310, 3) := by decide +kernel
theorem d_Md_digest_413 : decode c_Md_digest 413 = .ok (.iconst 0, 1) := by decide +kernel
theorem d_Md_digest_414 : decode c_Md_digest 414 = .ok (.istore_n 3, 1) := by decide +kernel
theorem d_Md_digest_415 : decode c_Md_digest 415 = .ok (.iload_n 3, 1) := by decide +kernel
theorem d_Md_digest_416 : decode c_Md_digest 416 = .ok (.iconst 5, 1) := by decide +kernel
theorem d_Md_digest_417 : decode c_Md_digest 417 = .ok (.if_icmp .ge 23, 3) := by decide +kernel
theorem d_Md_digest_420 : decode c_Md_digest 420 = .ok (.ldc2_w 324, 3) := by decide +kernel
theorem d_Md_digest_423 : decode c_Md_digest 423 = .ok (.lload_n 1, 1) := by decide +kernel
theorem d_Md_digest_424 : decode c_Md_digest 424 = .ok (.lmul, 1) := by decide +kernel
theorem d_Md_digest_425 : decode c_Md_digest 425 = .ok (.aload_n 0, 1) := by decide +kernel
theorem d_Md_digest_426 : decode c_Md_digest 426 = .ok (.getfield 58, 3) := by decide +kernel
theorem d_Md_digest_429 : decode c_Md_digest 429 = .ok (.iload_n 3, 1) := by decide +kernel
theorem d_Md_digest_430 : decode c_Md_digest 430 = .ok (.iaload, 1) := by decide +kernel
theorem d_Md_digest_431 : decode c_Md_digest 431 = .ok (.i2l, 1) := by decide +kernel
theorem d_Md_digest_432 : decode c_Md_digest 432 = .ok (.ladd, 1) := by decide +kernel
theorem d_Md_digest_433 : decode c_Md_digest 433 = .ok (.lstore_n 1, 1) := by decide +kernel
theorem d_Md_digest_434 : decode c_Md_digest 434 = .ok (.iinc 3 1, 3) := by decide +kernel
theorem d_Md_digest_437 : decode c_Md_digest 437 = .ok (.goto (-22), 3) := by decide +kernel
theorem d_Md_digest_440 : decode c_Md_digest 440 = .ok (.ldc2_w 324, 3) := by decide +kernel
theorem d_Md_digest_443 : decode c_Md_digest 443 = .ok (.lload_n 1, 1) := by decide +kernel
theorem d_Md_digest_444 : decode c_Md_digest 444 = .ok (.lmul, 1) := by decide +kernel
theorem d_Md_digest_445 : decode c_Md_digest 445 = .ok (.aload_n 0, 1) := by decide +kernel
theorem d_Md_digest_446 : decode c_Md_digest 446 = .ok (.invokevirtual 319, 3) := by decide +kernel
theorem d_Md_digest_449 : decode c_Md_digest 449 = .ok (.i2l, 1) := by decide +kernel
theorem d_Md_digest_450 : decode c_Md_digest 450 = .ok (.ladd, 1) := by decide +kernel
theorem d_Md_digest_451 : decode c_Md_digest 451 = .ok (.lreturn, 1) := by decide +kernel
def f_Md_digest_415 : Nat → Sg → Int64 → Int32 → Option (Int64 × Sg)
  | 0, _, _, _ => none
  | n + 1, σ, v1, v3 =>
    if 5 ≤ v3 then
      bd (f_Md_settledNow σ) fun r33 σ32 =>
        some ((31 * v1) + r33.toInt64, σ32)
    else
      gd (vin v3 5) (
        f_Md_digest_415 n σ ((31 * v1) + ((σ.1 83 v3.toNatClampNeg).toInt64)) (v3 + 1))
theorem f_Md_digest_415_s (n : Nat) (σ : Sg) (v1 : Int64) (v3 : Int32) : f_Md_digest_415 (n + 1) σ v1 v3 =
    if 5 ≤ v3 then
      bd (f_Md_settledNow σ) fun r33 σ32 =>
        some ((31 * v1) + r33.toInt64, σ32)
    else
      gd (vin v3 5) (
        f_Md_digest_415 n σ ((31 * v1) + ((σ.1 83 v3.toNatClampNeg).toInt64)) (v3 + 1)) := rfl
set_option maxHeartbeats 4000000 in
theorem j_Md_digest_415 {V : Vx} {X : Xx} {r : Int64} {σ' : Sg}  : ∀ (n : Nat) (σ : Sg) (v1 : Int64) (v3 : Int32), f_Md_digest_415 n σ v1 v3 = some (r, σ') → J V X (k2_rm 7 159) c_Md_digest R_Md 5 (some .long) (Qr V X (some (.long r)) σ') σ 415 [(0, rf V 66), (1, .long v1), (3, .int v3)] [] := by
  intro n
  induction n with
  | zero => intro σ v1 v3 hf; exact nn hf
  | succ n ih =>
    intro σ v1 v3 hf
    rw [f_Md_digest_415_s] at hf
    refine J_iload_n (pc' := 416) d_Md_digest_415 rfl 2 rfl ?_
    refine J_iconst (pc' := 417) (v := 5) d_Md_digest_416 rfl ic_5 ?_
    refine J_icmp_ge (pc' := 420) (tgt := 440) d_Md_digest_417 rfl (by decide) (fun hc30 => ?_) (fun hc30 => ?_)
    · have hf := brT hc30 hf
      refine J_ldc2 (pc' := 443) (v := 31) d_Md_digest_440 rfl cw_Md_324 ?_
      refine J_lload_n (pc' := 444) d_Md_digest_443 rfl 1 rfl ?_
      refine J_lmul (pc' := 445) d_Md_digest_444 rfl ?_
      refine J_aload_n (pc' := 446) d_Md_digest_445 rfl 0 rfl ?_
      obtain ⟨r33, σ32, hq31, hf⟩ := bdE hf
      refine J_V (pc' := 449) (as := []) (rest := [.long (31 * v1)]) (st' := [.int r33, .long (31 * v1)]) d_Md_digest_446 rfl sh_66 rfl mv_Md_319 (ct_Md_settledNow V _ σ hq31) rfl rfl ⟨Nat.le_of_ble_eq_true rfl, Nat.le_of_ble_eq_true rfl⟩ ⟨rfl, rfl⟩ (Nat.le_of_ble_eq_true rfl) rfl ?_
      refine J_i2l (pc' := 450) d_Md_digest_449 rfl ?_
      refine J_ladd (pc' := 451) d_Md_digest_450 rfl ?_
      obtain ⟨rfl, rfl⟩ := resE hf
      exact J_lret d_Md_digest_451
    · have hf := brF hc30 hf
      refine J_ldc2 (pc' := 423) (v := 31) d_Md_digest_420 rfl cw_Md_324 ?_
      refine J_lload_n (pc' := 424) d_Md_digest_423 rfl 1 rfl ?_
      refine J_lmul (pc' := 425) d_Md_digest_424 rfl ?_
      refine J_aload_n (pc' := 426) d_Md_digest_425 rfl 0 rfl ?_
      refine J_getR (pc' := 429) d_Md_digest_426 rfl sh_66 fl_Md_58 rfl ?_
      refine J_iload_n (pc' := 430) d_Md_digest_429 rfl 2 rfl ?_
      obtain ⟨hg34, hf⟩ := gdE hf
      refine J_ial (pc' := 431) d_Md_digest_430 rfl sh_83 (vinP hg34) ?_
      refine J_i2l (pc' := 432) d_Md_digest_431 rfl ?_
      refine J_ladd (pc' := 433) d_Md_digest_432 rfl ?_
      refine J_lstore_n (pc' := 434) (lv' := [(1, .long ((31 * v1) + ((σ.1 83 v3.toNatClampNeg).toInt64))), (0, rf V 66), (3, .int v3)]) d_Md_digest_433 rfl rfl (by decide) rfl ?_
      refine J_iinc (pc' := 437) (j := 2) (v := 1) (lv' := [(3, .int (v3 + 1)), (1, .long ((31 * v1) + ((σ.1 83 v3.toNatClampNeg).toInt64))), (0, rf V 66)]) d_Md_digest_434 rfl rfl ic_1 (by decide) rfl ?_
      refine J_goto (tgt := 415) d_Md_digest_437 (by decide) ?_
      refine J_pick [2, 1, 0] rfl ?_
      exact ih _ _ _ hf
def f_Md_digest_344 (k313 : Sg → Int64 → Int32 → Option (Int64 × Sg)) (σ : Sg) (v3 : Int32) (s0 : Int32) (s1 : Int64) : Option (Int64 × Sg) :=
  k313 σ (s1 + s0.toInt64) (v3 + 1)
set_option maxHeartbeats 4000000 in
theorem j_Md_digest_344 {V : Vx} {X : Xx} {r : Int64} {σ' : Sg} {k313 : Sg → Int64 → Int32 → Option (Int64 × Sg)} (hk313 : ∀ (σ : Sg) (v1 : Int64) (v3 : Int32), k313 σ v1 v3 = some (r, σ') → J V X (k2_rm 7 159) c_Md_digest R_Md 5 (some .long) (Qr V X (some (.long r)) σ') σ 313 [(0, rf V 66), (1, .long v1), (3, .int v3)] []) (σ : Sg) (v3 : Int32) (s0 : Int32) (s1 : Int64) (hf : f_Md_digest_344 k313 σ v3 s0 s1 = some (r, σ')) : J V X (k2_rm 7 159) c_Md_digest R_Md 5 (some .long) (Qr V X (some (.long r)) σ') σ 344 [(0, rf V 66), (3, .int v3)] [.int s0, .long s1] := by
  unfold f_Md_digest_344 at hf
  refine J_i2l (pc' := 345) d_Md_digest_344 rfl ?_
  refine J_ladd (pc' := 346) d_Md_digest_345 rfl ?_
  refine J_lstore_n (pc' := 347) (lv' := [(1, .long (s1 + s0.toInt64)), (0, rf V 66), (3, .int v3)]) d_Md_digest_346 rfl rfl (by decide) rfl ?_
  refine J_iinc (pc' := 350) (j := 2) (v := 1) (lv' := [(3, .int (v3 + 1)), (1, .long (s1 + s0.toInt64)), (0, rf V 66)]) d_Md_digest_347 rfl rfl ic_1 (by decide) rfl ?_
  refine J_goto (tgt := 313) d_Md_digest_350 (by decide) ?_
  refine J_pick [2, 1, 0] rfl ?_
  exact hk313 _ _ _ hf
def f_Md_digest_313 : Nat → Sg → Int64 → Int32 → Option (Int64 × Sg)
  | 0, _, _, _ => none
  | n + 1, σ, v1, v3 =>
    if (σ.1 66 18) ≤ v3 then
      bd (f_Md_neededNow σ) fun r25 σ24 =>
        (f_Md_findPegs σ24 0 9 1).bind fun σ27 =>
          (f_Md_findBalances σ27).bind fun σ29 =>
            f_Md_digest_415 FU σ29 ((31 * ((31 * ((31 * ((31 * v1) + r25.toInt64)) + ((σ27.1 66 26).toInt64))) + ((σ27.1 66 27).toInt64))) + ((σ27.1 66 28).toInt64)) 0
    else
      if (σ.1 66 24) = (-1) then
        f_Md_digest_344 (f_Md_digest_313 n) σ v3 (-1) (31 * v1)
      else
        gd (vin v3 5) (
          f_Md_digest_344 (f_Md_digest_313 n) σ v3 (σ.1 81 v3.toNatClampNeg) (31 * v1))
theorem f_Md_digest_313_s (n : Nat) (σ : Sg) (v1 : Int64) (v3 : Int32) : f_Md_digest_313 (n + 1) σ v1 v3 =
    if (σ.1 66 18) ≤ v3 then
      bd (f_Md_neededNow σ) fun r25 σ24 =>
        (f_Md_findPegs σ24 0 9 1).bind fun σ27 =>
          (f_Md_findBalances σ27).bind fun σ29 =>
            f_Md_digest_415 FU σ29 ((31 * ((31 * ((31 * ((31 * v1) + r25.toInt64)) + ((σ27.1 66 26).toInt64))) + ((σ27.1 66 27).toInt64))) + ((σ27.1 66 28).toInt64)) 0
    else
      if (σ.1 66 24) = (-1) then
        f_Md_digest_344 (f_Md_digest_313 n) σ v3 (-1) (31 * v1)
      else
        gd (vin v3 5) (
          f_Md_digest_344 (f_Md_digest_313 n) σ v3 (σ.1 81 v3.toNatClampNeg) (31 * v1)) := rfl
set_option maxHeartbeats 4000000 in
theorem j_Md_digest_313 {V : Vx} {X : Xx} {r : Int64} {σ' : Sg}  : ∀ (n : Nat) (σ : Sg) (v1 : Int64) (v3 : Int32), f_Md_digest_313 n σ v1 v3 = some (r, σ') → J V X (k2_rm 7 159) c_Md_digest R_Md 5 (some .long) (Qr V X (some (.long r)) σ') σ 313 [(0, rf V 66), (1, .long v1), (3, .int v3)] [] := by
  intro n
  induction n with
  | zero => intro σ v1 v3 hf; exact nn hf
  | succ n ih =>
    intro σ v1 v3 hf
    rw [f_Md_digest_313_s] at hf
    refine J_iload_n (pc' := 314) d_Md_digest_313 rfl 2 rfl ?_
    refine J_aload_n (pc' := 315) d_Md_digest_314 rfl 0 rfl ?_
    refine J_getI (pc' := 318) d_Md_digest_315 rfl sh_66 fl_Md_259 rfl ?_
    refine J_icmp_ge (pc' := 321) (tgt := 353) d_Md_digest_318 rfl (by decide) (fun hc22 => ?_) (fun hc22 => ?_)
    · have hf := brT hc22 hf
      refine J_ldc2 (pc' := 356) (v := 31) d_Md_digest_353 rfl cw_Md_324 ?_
      refine J_lload_n (pc' := 357) d_Md_digest_356 rfl 1 rfl ?_
      refine J_lmul (pc' := 358) d_Md_digest_357 rfl ?_
      refine J_aload_n (pc' := 359) d_Md_digest_358 rfl 0 rfl ?_
      obtain ⟨r25, σ24, hq23, hf⟩ := bdE hf
      refine J_V (pc' := 362) (as := []) (rest := [.long (31 * v1)]) (st' := [.int r25, .long (31 * v1)]) d_Md_digest_359 rfl sh_66 rfl mv_Md_294 (ct_Md_neededNow V _ σ hq23) rfl rfl ⟨Nat.le_of_ble_eq_true rfl, Nat.le_of_ble_eq_true rfl⟩ ⟨rfl, rfl⟩ (Nat.le_of_ble_eq_true rfl) rfl ?_
      refine J_i2l (pc' := 363) d_Md_digest_362 rfl ?_
      refine J_ladd (pc' := 364) d_Md_digest_363 rfl ?_
      refine J_lstore_n (pc' := 365) (lv' := [(1, .long ((31 * v1) + r25.toInt64)), (0, rf V 66), (3, .int v3)]) d_Md_digest_364 rfl rfl (by decide) rfl ?_
      refine J_aload_n (pc' := 366) d_Md_digest_365 rfl 1 rfl ?_
      refine J_iconst (pc' := 367) (v := 0) d_Md_digest_366 rfl ic_0 ?_
      refine J_bipush (pc' := 369) (v := 9) d_Md_digest_367 rfl bc_9 ?_
      refine J_iconst (pc' := 370) (v := 1) d_Md_digest_369 rfl ic_1 ?_
      obtain ⟨σ27, hq26, hf⟩ := bpE hf
      refine J_V (pc' := 373) (as := [.int 0, .int 9, .int 1]) (rest := []) (st' := []) d_Md_digest_370 rfl sh_66 rfl mv_Md_306 (ct_Md_findPegs V _ σ24 0 9 1 hq26) rfl rfl ⟨Nat.le_of_ble_eq_true rfl, Nat.le_of_ble_eq_true rfl⟩ ⟨rfl, rfl⟩ (Nat.le_of_ble_eq_true rfl) rfl ?_
      refine J_ldc2 (pc' := 376) (v := 31) d_Md_digest_373 rfl cw_Md_324 ?_
      refine J_lload_n (pc' := 377) d_Md_digest_376 rfl 0 rfl ?_
      refine J_lmul (pc' := 378) d_Md_digest_377 rfl ?_
      refine J_aload_n (pc' := 379) d_Md_digest_378 rfl 1 rfl ?_
      refine J_getI (pc' := 382) d_Md_digest_379 rfl sh_66 fl_Md_297 rfl ?_
      refine J_i2l (pc' := 383) d_Md_digest_382 rfl ?_
      refine J_ladd (pc' := 384) d_Md_digest_383 rfl ?_
      refine J_lstore_n (pc' := 385) (lv' := [(1, .long ((31 * ((31 * v1) + r25.toInt64)) + ((σ27.1 66 26).toInt64))), (0, rf V 66), (3, .int v3)]) d_Md_digest_384 rfl rfl (by decide) rfl ?_
      refine J_ldc2 (pc' := 388) (v := 31) d_Md_digest_385 rfl cw_Md_324 ?_
      refine J_lload_n (pc' := 389) d_Md_digest_388 rfl 0 rfl ?_
      refine J_lmul (pc' := 390) d_Md_digest_389 rfl ?_
      refine J_aload_n (pc' := 391) d_Md_digest_390 rfl 1 rfl ?_
      refine J_getI (pc' := 394) d_Md_digest_391 rfl sh_66 fl_Md_300 rfl ?_
      refine J_i2l (pc' := 395) d_Md_digest_394 rfl ?_
      refine J_ladd (pc' := 396) d_Md_digest_395 rfl ?_
      refine J_lstore_n (pc' := 397) (lv' := [(1, .long ((31 * ((31 * ((31 * v1) + r25.toInt64)) + ((σ27.1 66 26).toInt64))) + ((σ27.1 66 27).toInt64))), (0, rf V 66), (3, .int v3)]) d_Md_digest_396 rfl rfl (by decide) rfl ?_
      refine J_ldc2 (pc' := 400) (v := 31) d_Md_digest_397 rfl cw_Md_324 ?_
      refine J_lload_n (pc' := 401) d_Md_digest_400 rfl 0 rfl ?_
      refine J_lmul (pc' := 402) d_Md_digest_401 rfl ?_
      refine J_aload_n (pc' := 403) d_Md_digest_402 rfl 1 rfl ?_
      refine J_getI (pc' := 406) d_Md_digest_403 rfl sh_66 fl_Md_303 rfl ?_
      refine J_i2l (pc' := 407) d_Md_digest_406 rfl ?_
      refine J_ladd (pc' := 408) d_Md_digest_407 rfl ?_
      refine J_lstore_n (pc' := 409) (lv' := [(1, .long ((31 * ((31 * ((31 * ((31 * v1) + r25.toInt64)) + ((σ27.1 66 26).toInt64))) + ((σ27.1 66 27).toInt64))) + ((σ27.1 66 28).toInt64))), (0, rf V 66), (3, .int v3)]) d_Md_digest_408 rfl rfl (by decide) rfl ?_
      refine J_aload_n (pc' := 410) d_Md_digest_409 rfl 1 rfl ?_
      obtain ⟨σ29, hq28, hf⟩ := bpE hf
      refine J_V (pc' := 413) (as := []) (rest := []) (st' := []) d_Md_digest_410 rfl sh_66 rfl mv_Md_310 (ct_Md_findBalances V _ σ27 hq28) rfl rfl ⟨Nat.le_of_ble_eq_true rfl, Nat.le_of_ble_eq_true rfl⟩ ⟨rfl, rfl⟩ (Nat.le_of_ble_eq_true rfl) rfl ?_
      refine J_iconst (pc' := 414) (v := 0) d_Md_digest_413 rfl ic_0 ?_
      refine J_istore_n (pc' := 415) (lv' := [(3, .int 0), (1, .long ((31 * ((31 * ((31 * ((31 * v1) + r25.toInt64)) + ((σ27.1 66 26).toInt64))) + ((σ27.1 66 27).toInt64))) + ((σ27.1 66 28).toInt64))), (0, rf V 66)]) d_Md_digest_414 rfl rfl (by decide) rfl ?_
      refine J_pick [2, 1, 0] rfl ?_
      exact j_Md_digest_415 FU _ _ _ hf
    · have hf := brF hc22 hf
      refine J_ldc2 (pc' := 324) (v := 31) d_Md_digest_321 rfl cw_Md_324 ?_
      refine J_lload_n (pc' := 325) d_Md_digest_324 rfl 1 rfl ?_
      refine J_lmul (pc' := 326) d_Md_digest_325 rfl ?_
      refine J_aload_n (pc' := 327) d_Md_digest_326 rfl 0 rfl ?_
      refine J_getI (pc' := 330) d_Md_digest_327 rfl sh_66 fl_Md_270 rfl ?_
      refine J_iconst (pc' := 331) (v := (-1)) d_Md_digest_330 rfl ic_m1 ?_
      refine J_icmp_ne (pc' := 334) (tgt := 338) d_Md_digest_331 rfl (by decide) (fun hc35 => ?_) (fun hc35 => ?_)
      · have hf := brF hc35 hf
        refine J_aload_n (pc' := 339) d_Md_digest_338 rfl 0 rfl ?_
        refine J_getR (pc' := 342) d_Md_digest_339 rfl sh_66 fl_Md_52 rfl ?_
        refine J_iload_n (pc' := 343) d_Md_digest_342 rfl 2 rfl ?_
        obtain ⟨hg36, hf⟩ := gdE hf
        refine J_ial (pc' := 344) d_Md_digest_343 rfl sh_81 (vinP hg36) ?_
        refine J_pick [0, 2] rfl ?_
        exact j_Md_digest_344 ih _ _ _ _ hf
      · have hf := brT hc35 hf
        refine J_iconst (pc' := 335) (v := (-1)) d_Md_digest_334 rfl ic_m1 ?_
        refine J_goto (tgt := 344) d_Md_digest_335 (by decide) ?_
        refine J_pick [0, 2] rfl ?_
        exact j_Md_digest_344 ih _ _ _ _ hf
def f_Md_digest_231 (k200 : Sg → Int64 → Int32 → Option (Int64 × Sg)) (σ : Sg) (v3 : Int32) (s0 : Int32) (s1 : Int64) : Option (Int64 × Sg) :=
  k200 σ (s1 + s0.toInt64) (v3 + 1)
set_option maxHeartbeats 4000000 in
theorem j_Md_digest_231 {V : Vx} {X : Xx} {r : Int64} {σ' : Sg} {k200 : Sg → Int64 → Int32 → Option (Int64 × Sg)} (hk200 : ∀ (σ : Sg) (v1 : Int64) (v3 : Int32), k200 σ v1 v3 = some (r, σ') → J V X (k2_rm 7 159) c_Md_digest R_Md 5 (some .long) (Qr V X (some (.long r)) σ') σ 200 [(0, rf V 66), (1, .long v1), (3, .int v3)] []) (σ : Sg) (v3 : Int32) (s0 : Int32) (s1 : Int64) (hf : f_Md_digest_231 k200 σ v3 s0 s1 = some (r, σ')) : J V X (k2_rm 7 159) c_Md_digest R_Md 5 (some .long) (Qr V X (some (.long r)) σ') σ 231 [(0, rf V 66), (3, .int v3)] [.int s0, .long s1] := by
  unfold f_Md_digest_231 at hf
  refine J_i2l (pc' := 232) d_Md_digest_231 rfl ?_
  refine J_ladd (pc' := 233) d_Md_digest_232 rfl ?_
  refine J_lstore_n (pc' := 234) (lv' := [(1, .long (s1 + s0.toInt64)), (0, rf V 66), (3, .int v3)]) d_Md_digest_233 rfl rfl (by decide) rfl ?_
  refine J_iinc (pc' := 237) (j := 2) (v := 1) (lv' := [(3, .int (v3 + 1)), (1, .long (s1 + s0.toInt64)), (0, rf V 66)]) d_Md_digest_234 rfl rfl ic_1 (by decide) rfl ?_
  refine J_goto (tgt := 200) d_Md_digest_237 (by decide) ?_
  refine J_pick [2, 1, 0] rfl ?_
  exact hk200 _ _ _ hf
def f_Md_digest_200 : Nat → Sg → Int64 → Int32 → Option (Int64 × Sg)
  | 0, _, _, _ => none
  | n + 1, σ, v1, v3 =>
    if (σ.1 66 14) ≤ v3 then
      bd (f_Md_clashes σ) fun r14 σ13 =>
        (f_Md_heavyNow σ13).bind fun r16 =>
          bd (f_Md_wind σ13 7) fun r19 σ18 =>
            (f_Md_findSent σ18 (σ18.1 66 8) (-1)).bind fun σ21 =>
              f_Md_digest_313 FU σ21 ((31 * ((31 * ((31 * ((31 * ((31 * v1) + r14.toInt64)) + r16.toInt64)) + r19.toInt64)) + ((σ21.1 66 24).toInt64))) + ((σ21.1 66 25).toInt64)) 0
    else
      (f_Md_counts σ v3).bind fun r38 =>
        if r38 = 0 then
          f_Md_digest_231 (f_Md_digest_200 n) σ v3 (-1) (31 * v1)
        else
          gd (vin v3 20) (
            f_Md_digest_231 (f_Md_digest_200 n) σ v3 (σ.1 77 v3.toNatClampNeg) (31 * v1))
theorem f_Md_digest_200_s (n : Nat) (σ : Sg) (v1 : Int64) (v3 : Int32) : f_Md_digest_200 (n + 1) σ v1 v3 =
    if (σ.1 66 14) ≤ v3 then
      bd (f_Md_clashes σ) fun r14 σ13 =>
        (f_Md_heavyNow σ13).bind fun r16 =>
          bd (f_Md_wind σ13 7) fun r19 σ18 =>
            (f_Md_findSent σ18 (σ18.1 66 8) (-1)).bind fun σ21 =>
              f_Md_digest_313 FU σ21 ((31 * ((31 * ((31 * ((31 * ((31 * v1) + r14.toInt64)) + r16.toInt64)) + r19.toInt64)) + ((σ21.1 66 24).toInt64))) + ((σ21.1 66 25).toInt64)) 0
    else
      (f_Md_counts σ v3).bind fun r38 =>
        if r38 = 0 then
          f_Md_digest_231 (f_Md_digest_200 n) σ v3 (-1) (31 * v1)
        else
          gd (vin v3 20) (
            f_Md_digest_231 (f_Md_digest_200 n) σ v3 (σ.1 77 v3.toNatClampNeg) (31 * v1)) := rfl
set_option maxHeartbeats 4000000 in
theorem j_Md_digest_200 {V : Vx} {X : Xx} {r : Int64} {σ' : Sg}  : ∀ (n : Nat) (σ : Sg) (v1 : Int64) (v3 : Int32), f_Md_digest_200 n σ v1 v3 = some (r, σ') → J V X (k2_rm 7 159) c_Md_digest R_Md 5 (some .long) (Qr V X (some (.long r)) σ') σ 200 [(0, rf V 66), (1, .long v1), (3, .int v3)] [] := by
  intro n
  induction n with
  | zero => intro σ v1 v3 hf; exact nn hf
  | succ n ih =>
    intro σ v1 v3 hf
    rw [f_Md_digest_200_s] at hf
    refine J_iload_n (pc' := 201) d_Md_digest_200 rfl 2 rfl ?_
    refine J_aload_n (pc' := 202) d_Md_digest_201 rfl 0 rfl ?_
    refine J_getI (pc' := 205) d_Md_digest_202 rfl sh_66 fl_Md_209 rfl ?_
    refine J_icmp_ge (pc' := 208) (tgt := 240) d_Md_digest_205 rfl (by decide) (fun hc11 => ?_) (fun hc11 => ?_)
    · have hf := brT hc11 hf
      refine J_ldc2 (pc' := 243) (v := 31) d_Md_digest_240 rfl cw_Md_324 ?_
      refine J_lload_n (pc' := 244) d_Md_digest_243 rfl 1 rfl ?_
      refine J_lmul (pc' := 245) d_Md_digest_244 rfl ?_
      refine J_aload_n (pc' := 246) d_Md_digest_245 rfl 0 rfl ?_
      obtain ⟨r14, σ13, hq12, hf⟩ := bdE hf
      refine J_V (pc' := 249) (as := []) (rest := [.long (31 * v1)]) (st' := [.int r14, .long (31 * v1)]) d_Md_digest_246 rfl sh_66 rfl mv_Md_329 (ct_Md_clashes V _ σ hq12) rfl rfl ⟨Nat.le_of_ble_eq_true rfl, Nat.le_of_ble_eq_true rfl⟩ ⟨rfl, rfl⟩ (Nat.le_of_ble_eq_true rfl) rfl ?_
      refine J_i2l (pc' := 250) d_Md_digest_249 rfl ?_
      refine J_ladd (pc' := 251) d_Md_digest_250 rfl ?_
      refine J_lstore_n (pc' := 252) (lv' := [(1, .long ((31 * v1) + r14.toInt64)), (0, rf V 66), (3, .int v3)]) d_Md_digest_251 rfl rfl (by decide) rfl ?_
      refine J_ldc2 (pc' := 255) (v := 31) d_Md_digest_252 rfl cw_Md_324 ?_
      refine J_lload_n (pc' := 256) d_Md_digest_255 rfl 0 rfl ?_
      refine J_lmul (pc' := 257) d_Md_digest_256 rfl ?_
      refine J_aload_n (pc' := 258) d_Md_digest_257 rfl 1 rfl ?_
      obtain ⟨r16, hq15, hf⟩ := bpE hf
      refine J_V (pc' := 261) (as := []) (rest := [.long (31 * ((31 * v1) + r14.toInt64))]) (st' := [.int r16, .long (31 * ((31 * v1) + r14.toInt64))]) d_Md_digest_258 rfl sh_66 rfl mv_Md_249 (ct_Md_heavyNow V _ σ13 hq15) rfl rfl ⟨Nat.le_of_ble_eq_true rfl, Nat.le_of_ble_eq_true rfl⟩ ⟨rfl, rfl⟩ (Nat.le_of_ble_eq_true rfl) rfl ?_
      refine J_i2l (pc' := 262) d_Md_digest_261 rfl ?_
      refine J_ladd (pc' := 263) d_Md_digest_262 rfl ?_
      refine J_lstore_n (pc' := 264) (lv' := [(1, .long ((31 * ((31 * v1) + r14.toInt64)) + r16.toInt64)), (0, rf V 66), (3, .int v3)]) d_Md_digest_263 rfl rfl (by decide) rfl ?_
      refine J_ldc2 (pc' := 267) (v := 31) d_Md_digest_264 rfl cw_Md_324 ?_
      refine J_lload_n (pc' := 268) d_Md_digest_267 rfl 0 rfl ?_
      refine J_lmul (pc' := 269) d_Md_digest_268 rfl ?_
      refine J_aload_n (pc' := 270) d_Md_digest_269 rfl 1 rfl ?_
      refine J_bipush (pc' := 272) (v := 7) d_Md_digest_270 rfl bc_7 ?_
      obtain ⟨r19, σ18, hq17, hf⟩ := bdE hf
      refine J_V (pc' := 275) (as := [.int 7]) (rest := [.long (31 * ((31 * ((31 * v1) + r14.toInt64)) + r16.toInt64))]) (st' := [.int r19, .long (31 * ((31 * ((31 * v1) + r14.toInt64)) + r16.toInt64))]) d_Md_digest_272 rfl sh_66 rfl mv_Md_332 (ct_Md_wind V _ σ13 7 hq17) rfl rfl ⟨Nat.le_of_ble_eq_true rfl, Nat.le_of_ble_eq_true rfl⟩ ⟨rfl, rfl⟩ (Nat.le_of_ble_eq_true rfl) rfl ?_
      refine J_i2l (pc' := 276) d_Md_digest_275 rfl ?_
      refine J_ladd (pc' := 277) d_Md_digest_276 rfl ?_
      refine J_lstore_n (pc' := 278) (lv' := [(1, .long ((31 * ((31 * ((31 * v1) + r14.toInt64)) + r16.toInt64)) + r19.toInt64)), (0, rf V 66), (3, .int v3)]) d_Md_digest_277 rfl rfl (by decide) rfl ?_
      refine J_aload_n (pc' := 279) d_Md_digest_278 rfl 1 rfl ?_
      refine J_aload_n (pc' := 280) d_Md_digest_279 rfl 1 rfl ?_
      refine J_getI (pc' := 283) d_Md_digest_280 rfl sh_66 fl_Md_114 rfl ?_
      refine J_iconst (pc' := 284) (v := (-1)) d_Md_digest_283 rfl ic_m1 ?_
      obtain ⟨σ21, hq20, hf⟩ := bpE hf
      refine J_V (pc' := 287) (as := [.int (σ18.1 66 8), .int (-1)]) (rest := []) (st' := []) d_Md_digest_284 rfl sh_66 rfl mv_Md_288 (ct_Md_findSent V _ σ18 (σ18.1 66 8) (-1) hq20) rfl rfl ⟨Nat.le_of_ble_eq_true rfl, Nat.le_of_ble_eq_true rfl⟩ ⟨rfl, rfl⟩ (Nat.le_of_ble_eq_true rfl) rfl ?_
      refine J_ldc2 (pc' := 290) (v := 31) d_Md_digest_287 rfl cw_Md_324 ?_
      refine J_lload_n (pc' := 291) d_Md_digest_290 rfl 0 rfl ?_
      refine J_lmul (pc' := 292) d_Md_digest_291 rfl ?_
      refine J_aload_n (pc' := 293) d_Md_digest_292 rfl 1 rfl ?_
      refine J_getI (pc' := 296) d_Md_digest_293 rfl sh_66 fl_Md_270 rfl ?_
      refine J_i2l (pc' := 297) d_Md_digest_296 rfl ?_
      refine J_ladd (pc' := 298) d_Md_digest_297 rfl ?_
      refine J_lstore_n (pc' := 299) (lv' := [(1, .long ((31 * ((31 * ((31 * ((31 * v1) + r14.toInt64)) + r16.toInt64)) + r19.toInt64)) + ((σ21.1 66 24).toInt64))), (0, rf V 66), (3, .int v3)]) d_Md_digest_298 rfl rfl (by decide) rfl ?_
      refine J_ldc2 (pc' := 302) (v := 31) d_Md_digest_299 rfl cw_Md_324 ?_
      refine J_lload_n (pc' := 303) d_Md_digest_302 rfl 0 rfl ?_
      refine J_lmul (pc' := 304) d_Md_digest_303 rfl ?_
      refine J_aload_n (pc' := 305) d_Md_digest_304 rfl 1 rfl ?_
      refine J_getI (pc' := 308) d_Md_digest_305 rfl sh_66 fl_Md_273 rfl ?_
      refine J_i2l (pc' := 309) d_Md_digest_308 rfl ?_
      refine J_ladd (pc' := 310) d_Md_digest_309 rfl ?_
      refine J_lstore_n (pc' := 311) (lv' := [(1, .long ((31 * ((31 * ((31 * ((31 * ((31 * v1) + r14.toInt64)) + r16.toInt64)) + r19.toInt64)) + ((σ21.1 66 24).toInt64))) + ((σ21.1 66 25).toInt64))), (0, rf V 66), (3, .int v3)]) d_Md_digest_310 rfl rfl (by decide) rfl ?_
      refine J_iconst (pc' := 312) (v := 0) d_Md_digest_311 rfl ic_0 ?_
      refine J_istore_n (pc' := 313) (lv' := [(3, .int 0), (1, .long ((31 * ((31 * ((31 * ((31 * ((31 * v1) + r14.toInt64)) + r16.toInt64)) + r19.toInt64)) + ((σ21.1 66 24).toInt64))) + ((σ21.1 66 25).toInt64))), (0, rf V 66)]) d_Md_digest_312 rfl rfl (by decide) rfl ?_
      refine J_pick [2, 1, 0] rfl ?_
      exact j_Md_digest_313 FU _ _ _ hf
    · have hf := brF hc11 hf
      refine J_ldc2 (pc' := 211) (v := 31) d_Md_digest_208 rfl cw_Md_324 ?_
      refine J_lload_n (pc' := 212) d_Md_digest_211 rfl 1 rfl ?_
      refine J_lmul (pc' := 213) d_Md_digest_212 rfl ?_
      refine J_aload_n (pc' := 214) d_Md_digest_213 rfl 0 rfl ?_
      refine J_iload_n (pc' := 215) d_Md_digest_214 rfl 2 rfl ?_
      obtain ⟨r38, hq37, hf⟩ := bpE hf
      refine J_V (pc' := 218) (as := [.int v3]) (rest := [.long (31 * v1)]) (st' := [.int r38, .long (31 * v1)]) d_Md_digest_215 rfl sh_66 rfl mv_Md_219 (ct_Md_counts V _ σ v3 hq37) rfl rfl ⟨Nat.le_of_ble_eq_true rfl, Nat.le_of_ble_eq_true rfl⟩ ⟨rfl, rfl⟩ (Nat.le_of_ble_eq_true rfl) rfl ?_
      refine J_if_eq (pc' := 221) (tgt := 230) d_Md_digest_218 rfl (by decide) (fun hc39 => ?_) (fun hc39 => ?_)
      · have hf := brT hc39 hf
        refine J_iconst (pc' := 231) (v := (-1)) d_Md_digest_230 rfl ic_m1 ?_
        refine J_pick [0, 2] rfl ?_
        exact j_Md_digest_231 ih _ _ _ _ hf
      · have hf := brF hc39 hf
        refine J_aload_n (pc' := 222) d_Md_digest_221 rfl 0 rfl ?_
        refine J_getR (pc' := 225) d_Md_digest_222 rfl sh_66 fl_Md_40 rfl ?_
        refine J_iload_n (pc' := 226) d_Md_digest_225 rfl 2 rfl ?_
        obtain ⟨hg40, hf⟩ := gdE hf
        refine J_ial (pc' := 227) d_Md_digest_226 rfl sh_77 (vinP hg40) ?_
        refine J_goto (tgt := 231) d_Md_digest_227 (by decide) ?_
        refine J_pick [0, 2] rfl ?_
        exact j_Md_digest_231 ih _ _ _ _ hf
def f_Md_digest_188 (k57 : Sg → Int64 → Int32 → Option (Int64 × Sg)) (σ : Sg) (v1 : Int64) (v3 : Int32) : Option (Int64 × Sg) :=
  k57 σ v1 (v3 + 1)
set_option maxHeartbeats 4000000 in
theorem j_Md_digest_188 {V : Vx} {X : Xx} {r : Int64} {σ' : Sg} {k57 : Sg → Int64 → Int32 → Option (Int64 × Sg)} (hk57 : ∀ (σ : Sg) (v1 : Int64) (v3 : Int32), k57 σ v1 v3 = some (r, σ') → J V X (k2_rm 7 159) c_Md_digest R_Md 5 (some .long) (Qr V X (some (.long r)) σ') σ 57 [(0, rf V 66), (1, .long v1), (3, .int v3)] []) (σ : Sg) (v1 : Int64) (v3 : Int32) (hf : f_Md_digest_188 k57 σ v1 v3 = some (r, σ')) : J V X (k2_rm 7 159) c_Md_digest R_Md 5 (some .long) (Qr V X (some (.long r)) σ') σ 188 [(0, rf V 66), (1, .long v1), (3, .int v3)] [] := by
  unfold f_Md_digest_188 at hf
  refine J_iinc (pc' := 191) (j := 2) (v := 1) (lv' := [(3, .int (v3 + 1)), (0, rf V 66), (1, .long v1)]) d_Md_digest_188 rfl rfl ic_1 (by decide) rfl ?_
  refine J_goto (tgt := 57) d_Md_digest_191 (by decide) ?_
  refine J_pick [1, 2, 0] rfl ?_
  exact hk57 _ _ _ hf
def f_Md_digest_140 (k57 : Sg → Int64 → Int32 → Option (Int64 × Sg)) : Nat → Sg → Int64 → Int32 → Int32 → Option (Int64 × Sg)
  | 0, _, _, _, _ => none
  | n + 1, σ, v1, v3, v4 =>
    if 4 ≤ v4 then
      f_Md_digest_188 k57 σ v1 v3
    else
      if (σ.1 66 8) ≤ 1 then
        f_Md_digest_188 k57 σ v1 v3
      else
        gd (decide (¬ σ.1 66 8 = 0)) (
          bd (f_Md_crossingOf σ v3 ((v3 + 1) - (v3 + 1) / (σ.1 66 8) * (σ.1 66 8)) (v4 / 2) (v4 - v4 / 2 * 2)) fun r54 σ53 =>
            f_Md_digest_140 k57 n σ53 ((31 * v1) + r54) v3 (v4 + 1))
theorem f_Md_digest_140_s (k57 : Sg → Int64 → Int32 → Option (Int64 × Sg)) (n : Nat) (σ : Sg) (v1 : Int64) (v3 : Int32) (v4 : Int32) : f_Md_digest_140 k57 (n + 1) σ v1 v3 v4 =
    if 4 ≤ v4 then
      f_Md_digest_188 k57 σ v1 v3
    else
      if (σ.1 66 8) ≤ 1 then
        f_Md_digest_188 k57 σ v1 v3
      else
        gd (decide (¬ σ.1 66 8 = 0)) (
          bd (f_Md_crossingOf σ v3 ((v3 + 1) - (v3 + 1) / (σ.1 66 8) * (σ.1 66 8)) (v4 / 2) (v4 - v4 / 2 * 2)) fun r54 σ53 =>
            f_Md_digest_140 k57 n σ53 ((31 * v1) + r54) v3 (v4 + 1)) := rfl
set_option maxHeartbeats 4000000 in
theorem j_Md_digest_140 {V : Vx} {X : Xx} {r : Int64} {σ' : Sg} {k57 : Sg → Int64 → Int32 → Option (Int64 × Sg)} (hk57 : ∀ (σ : Sg) (v1 : Int64) (v3 : Int32), k57 σ v1 v3 = some (r, σ') → J V X (k2_rm 7 159) c_Md_digest R_Md 5 (some .long) (Qr V X (some (.long r)) σ') σ 57 [(0, rf V 66), (1, .long v1), (3, .int v3)] []) : ∀ (n : Nat) (σ : Sg) (v1 : Int64) (v3 : Int32) (v4 : Int32), f_Md_digest_140 k57 n σ v1 v3 v4 = some (r, σ') → J V X (k2_rm 7 159) c_Md_digest R_Md 5 (some .long) (Qr V X (some (.long r)) σ') σ 140 [(0, rf V 66), (1, .long v1), (3, .int v3), (4, .int v4)] [] := by
  intro n
  induction n with
  | zero => intro σ v1 v3 v4 hf; exact nn hf
  | succ n ih =>
    intro σ v1 v3 v4 hf
    rw [f_Md_digest_140_s] at hf
    refine J_iload (pc' := 142) d_Md_digest_140 rfl 3 rfl ?_
    refine J_iconst (pc' := 143) (v := 4) d_Md_digest_142 rfl ic_4 ?_
    refine J_icmp_ge (pc' := 146) (tgt := 188) d_Md_digest_143 rfl (by decide) (fun hc49 => ?_) (fun hc49 => ?_)
    · have hf := brT hc49 hf
      refine J_pick [0, 1, 2] rfl ?_
      exact j_Md_digest_188 hk57 _ _ _ hf
    · have hf := brF hc49 hf
      refine J_aload_n (pc' := 147) d_Md_digest_146 rfl 0 rfl ?_
      refine J_getI (pc' := 150) d_Md_digest_147 rfl sh_66 fl_Md_114 rfl ?_
      refine J_iconst (pc' := 151) (v := 1) d_Md_digest_150 rfl ic_1 ?_
      refine J_icmp_le (pc' := 154) (tgt := 188) d_Md_digest_151 rfl (by decide) (fun hc50 => ?_) (fun hc50 => ?_)
      · have hf := brT hc50 hf
        refine J_pick [0, 1, 2] rfl ?_
        exact j_Md_digest_188 hk57 _ _ _ hf
      · have hf := brF hc50 hf
        refine J_ldc2 (pc' := 157) (v := 31) d_Md_digest_154 rfl cw_Md_324 ?_
        refine J_lload_n (pc' := 158) d_Md_digest_157 rfl 1 rfl ?_
        refine J_lmul (pc' := 159) d_Md_digest_158 rfl ?_
        refine J_aload_n (pc' := 160) d_Md_digest_159 rfl 0 rfl ?_
        refine J_iload_n (pc' := 161) d_Md_digest_160 rfl 2 rfl ?_
        refine J_iload_n (pc' := 162) d_Md_digest_161 rfl 2 rfl ?_
        refine J_iconst (pc' := 163) (v := 1) d_Md_digest_162 rfl ic_1 ?_
        refine J_iadd (pc' := 164) d_Md_digest_163 rfl ?_
        refine J_aload_n (pc' := 165) d_Md_digest_164 rfl 0 rfl ?_
        refine J_getI (pc' := 168) d_Md_digest_165 rfl sh_66 fl_Md_114 rfl ?_
        obtain ⟨hg51, hf⟩ := gdE hf
        refine J_irem (pc' := 169) d_Md_digest_168 rfl (of_decide_eq_true hg51) ?_
        refine J_iload (pc' := 171) d_Md_digest_169 rfl 3 rfl ?_
        refine J_iconst (pc' := 172) (v := 2) d_Md_digest_171 rfl ic_2 ?_
        refine J_idiv (pc' := 173) d_Md_digest_172 rfl (by decide) ?_
        refine J_iload (pc' := 175) d_Md_digest_173 rfl 3 rfl ?_
        refine J_iconst (pc' := 176) (v := 2) d_Md_digest_175 rfl ic_2 ?_
        refine J_irem (pc' := 177) d_Md_digest_176 rfl (by decide) ?_
        obtain ⟨r54, σ53, hq52, hf⟩ := bdE hf
        refine J_V (pc' := 180) (as := [.int v3, .int ((v3 + 1) - (v3 + 1) / (σ.1 66 8) * (σ.1 66 8)), .int (v4 / 2), .int (v4 - v4 / 2 * 2)]) (rest := [.long (31 * v1)]) (st' := [.long r54, .long (31 * v1)]) d_Md_digest_177 rfl sh_66 rfl mv_Md_182 (ct_Md_crossingOf V _ σ v3 ((v3 + 1) - (v3 + 1) / (σ.1 66 8) * (σ.1 66 8)) (v4 / 2) (v4 - v4 / 2 * 2) hq52) rfl rfl ⟨Nat.le_of_ble_eq_true rfl, Nat.le_of_ble_eq_true rfl⟩ ⟨rfl, rfl⟩ (Nat.le_of_ble_eq_true rfl) rfl ?_
        refine J_ladd (pc' := 181) d_Md_digest_180 rfl ?_
        refine J_lstore_n (pc' := 182) (lv' := [(1, .long ((31 * v1) + r54)), (0, rf V 66), (3, .int v3), (4, .int v4)]) d_Md_digest_181 rfl rfl (by decide) rfl ?_
        refine J_iinc (pc' := 185) (j := 3) (v := 1) (lv' := [(4, .int (v4 + 1)), (1, .long ((31 * v1) + r54)), (0, rf V 66), (3, .int v3)]) d_Md_digest_182 rfl rfl ic_1 (by decide) rfl ?_
        refine J_goto (tgt := 140) d_Md_digest_185 (by decide) ?_
        refine J_pick [2, 1, 3, 0] rfl ?_
        exact ih _ _ _ _ hf
def f_Md_digest_68 (k57 : Sg → Int64 → Int32 → Option (Int64 × Sg)) : Nat → Sg → Int64 → Int32 → Int32 → Option (Int64 × Sg)
  | 0, _, _, _, _ => none
  | n + 1, σ, v1, v3, v4 =>
    if 7 ≤ v4 then
      (f_Md_frayedOf σ v3 0).bind fun r43 =>
        (f_Md_frayedOf σ v3 1).bind fun r45 =>
          bd (f_Md_cutOf σ v3) fun r48 σ47 =>
            f_Md_digest_140 k57 FU σ47 ((31 * ((31 * ((31 * v1) + r43.toInt64)) + r45.toInt64)) + r48.toInt64) v3 0
    else
      (f_Md_ropeOf σ v3 v4).bind fun r56 =>
        f_Md_digest_68 k57 n σ ((31 * v1) + r56.toInt64) v3 (v4 + 1)
theorem f_Md_digest_68_s (k57 : Sg → Int64 → Int32 → Option (Int64 × Sg)) (n : Nat) (σ : Sg) (v1 : Int64) (v3 : Int32) (v4 : Int32) : f_Md_digest_68 k57 (n + 1) σ v1 v3 v4 =
    if 7 ≤ v4 then
      (f_Md_frayedOf σ v3 0).bind fun r43 =>
        (f_Md_frayedOf σ v3 1).bind fun r45 =>
          bd (f_Md_cutOf σ v3) fun r48 σ47 =>
            f_Md_digest_140 k57 FU σ47 ((31 * ((31 * ((31 * v1) + r43.toInt64)) + r45.toInt64)) + r48.toInt64) v3 0
    else
      (f_Md_ropeOf σ v3 v4).bind fun r56 =>
        f_Md_digest_68 k57 n σ ((31 * v1) + r56.toInt64) v3 (v4 + 1) := rfl
set_option maxHeartbeats 4000000 in
theorem j_Md_digest_68 {V : Vx} {X : Xx} {r : Int64} {σ' : Sg} {k57 : Sg → Int64 → Int32 → Option (Int64 × Sg)} (hk57 : ∀ (σ : Sg) (v1 : Int64) (v3 : Int32), k57 σ v1 v3 = some (r, σ') → J V X (k2_rm 7 159) c_Md_digest R_Md 5 (some .long) (Qr V X (some (.long r)) σ') σ 57 [(0, rf V 66), (1, .long v1), (3, .int v3)] []) : ∀ (n : Nat) (σ : Sg) (v1 : Int64) (v3 : Int32) (v4 : Int32), f_Md_digest_68 k57 n σ v1 v3 v4 = some (r, σ') → J V X (k2_rm 7 159) c_Md_digest R_Md 5 (some .long) (Qr V X (some (.long r)) σ') σ 68 [(0, rf V 66), (1, .long v1), (3, .int v3), (4, .int v4)] [] := by
  intro n
  induction n with
  | zero => intro σ v1 v3 v4 hf; exact nn hf
  | succ n ih =>
    intro σ v1 v3 v4 hf
    rw [f_Md_digest_68_s] at hf
    refine J_iload (pc' := 70) d_Md_digest_68 rfl 3 rfl ?_
    refine J_bipush (pc' := 72) (v := 7) d_Md_digest_70 rfl bc_7 ?_
    refine J_icmp_ge (pc' := 75) (tgt := 96) d_Md_digest_72 rfl (by decide) (fun hc41 => ?_) (fun hc41 => ?_)
    · have hf := brT hc41 hf
      refine J_ldc2 (pc' := 99) (v := 31) d_Md_digest_96 rfl cw_Md_324 ?_
      refine J_lload_n (pc' := 100) d_Md_digest_99 rfl 1 rfl ?_
      refine J_lmul (pc' := 101) d_Md_digest_100 rfl ?_
      refine J_aload_n (pc' := 102) d_Md_digest_101 rfl 0 rfl ?_
      refine J_iload_n (pc' := 103) d_Md_digest_102 rfl 2 rfl ?_
      refine J_iconst (pc' := 104) (v := 0) d_Md_digest_103 rfl ic_0 ?_
      obtain ⟨r43, hq42, hf⟩ := bpE hf
      refine J_V (pc' := 107) (as := [.int v3, .int 0]) (rest := [.long (31 * v1)]) (st' := [.int r43, .long (31 * v1)]) d_Md_digest_104 rfl sh_66 rfl mv_Md_246 (ct_Md_frayedOf V _ σ v3 0 hq42) rfl rfl ⟨Nat.le_of_ble_eq_true rfl, Nat.le_of_ble_eq_true rfl⟩ ⟨rfl, rfl⟩ (Nat.le_of_ble_eq_true rfl) rfl ?_
      refine J_i2l (pc' := 108) d_Md_digest_107 rfl ?_
      refine J_ladd (pc' := 109) d_Md_digest_108 rfl ?_
      refine J_lstore_n (pc' := 110) (lv' := [(1, .long ((31 * v1) + r43.toInt64)), (0, rf V 66), (3, .int v3), (4, .int v4)]) d_Md_digest_109 rfl rfl (by decide) rfl ?_
      refine J_ldc2 (pc' := 113) (v := 31) d_Md_digest_110 rfl cw_Md_324 ?_
      refine J_lload_n (pc' := 114) d_Md_digest_113 rfl 0 rfl ?_
      refine J_lmul (pc' := 115) d_Md_digest_114 rfl ?_
      refine J_aload_n (pc' := 116) d_Md_digest_115 rfl 1 rfl ?_
      refine J_iload_n (pc' := 117) d_Md_digest_116 rfl 2 rfl ?_
      refine J_iconst (pc' := 118) (v := 1) d_Md_digest_117 rfl ic_1 ?_
      obtain ⟨r45, hq44, hf⟩ := bpE hf
      refine J_V (pc' := 121) (as := [.int v3, .int 1]) (rest := [.long (31 * ((31 * v1) + r43.toInt64))]) (st' := [.int r45, .long (31 * ((31 * v1) + r43.toInt64))]) d_Md_digest_118 rfl sh_66 rfl mv_Md_246 (ct_Md_frayedOf V _ σ v3 1 hq44) rfl rfl ⟨Nat.le_of_ble_eq_true rfl, Nat.le_of_ble_eq_true rfl⟩ ⟨rfl, rfl⟩ (Nat.le_of_ble_eq_true rfl) rfl ?_
      refine J_i2l (pc' := 122) d_Md_digest_121 rfl ?_
      refine J_ladd (pc' := 123) d_Md_digest_122 rfl ?_
      refine J_lstore_n (pc' := 124) (lv' := [(1, .long ((31 * ((31 * v1) + r43.toInt64)) + r45.toInt64)), (0, rf V 66), (3, .int v3), (4, .int v4)]) d_Md_digest_123 rfl rfl (by decide) rfl ?_
      refine J_ldc2 (pc' := 127) (v := 31) d_Md_digest_124 rfl cw_Md_324 ?_
      refine J_lload_n (pc' := 128) d_Md_digest_127 rfl 0 rfl ?_
      refine J_lmul (pc' := 129) d_Md_digest_128 rfl ?_
      refine J_aload_n (pc' := 130) d_Md_digest_129 rfl 1 rfl ?_
      refine J_iload_n (pc' := 131) d_Md_digest_130 rfl 2 rfl ?_
      obtain ⟨r48, σ47, hq46, hf⟩ := bdE hf
      refine J_V (pc' := 134) (as := [.int v3]) (rest := [.long (31 * ((31 * ((31 * v1) + r43.toInt64)) + r45.toInt64))]) (st' := [.int r48, .long (31 * ((31 * ((31 * v1) + r43.toInt64)) + r45.toInt64))]) d_Md_digest_131 rfl sh_66 rfl mv_Md_291 (ct_Md_cutOf V _ σ v3 hq46) rfl rfl ⟨Nat.le_of_ble_eq_true rfl, Nat.le_of_ble_eq_true rfl⟩ ⟨rfl, rfl⟩ (Nat.le_of_ble_eq_true rfl) rfl ?_
      refine J_i2l (pc' := 135) d_Md_digest_134 rfl ?_
      refine J_ladd (pc' := 136) d_Md_digest_135 rfl ?_
      refine J_lstore_n (pc' := 137) (lv' := [(1, .long ((31 * ((31 * ((31 * v1) + r43.toInt64)) + r45.toInt64)) + r48.toInt64)), (0, rf V 66), (3, .int v3), (4, .int v4)]) d_Md_digest_136 rfl rfl (by decide) rfl ?_
      refine J_iconst (pc' := 138) (v := 0) d_Md_digest_137 rfl ic_0 ?_
      refine J_istore (pc' := 140) (lv' := [(4, .int 0), (1, .long ((31 * ((31 * ((31 * v1) + r43.toInt64)) + r45.toInt64)) + r48.toInt64)), (0, rf V 66), (3, .int v3)]) d_Md_digest_138 rfl (by decide) rfl ?_
      refine J_pick [2, 1, 3, 0] rfl ?_
      exact j_Md_digest_140 hk57 FU _ _ _ _ hf
    · have hf := brF hc41 hf
      refine J_ldc2 (pc' := 78) (v := 31) d_Md_digest_75 rfl cw_Md_324 ?_
      refine J_lload_n (pc' := 79) d_Md_digest_78 rfl 1 rfl ?_
      refine J_lmul (pc' := 80) d_Md_digest_79 rfl ?_
      refine J_aload_n (pc' := 81) d_Md_digest_80 rfl 0 rfl ?_
      refine J_iload_n (pc' := 82) d_Md_digest_81 rfl 2 rfl ?_
      refine J_iload (pc' := 84) d_Md_digest_82 rfl 3 rfl ?_
      obtain ⟨r56, hq55, hf⟩ := bpE hf
      refine J_V (pc' := 87) (as := [.int v3, .int v4]) (rest := [.long (31 * v1)]) (st' := [.int r56, .long (31 * v1)]) d_Md_digest_84 rfl sh_66 rfl mv_Md_148 (ct_Md_ropeOf V _ σ v3 v4 hq55) rfl rfl ⟨Nat.le_of_ble_eq_true rfl, Nat.le_of_ble_eq_true rfl⟩ ⟨rfl, rfl⟩ (Nat.le_of_ble_eq_true rfl) rfl ?_
      refine J_i2l (pc' := 88) d_Md_digest_87 rfl ?_
      refine J_ladd (pc' := 89) d_Md_digest_88 rfl ?_
      refine J_lstore_n (pc' := 90) (lv' := [(1, .long ((31 * v1) + r56.toInt64)), (0, rf V 66), (3, .int v3), (4, .int v4)]) d_Md_digest_89 rfl rfl (by decide) rfl ?_
      refine J_iinc (pc' := 93) (j := 3) (v := 1) (lv' := [(4, .int (v4 + 1)), (1, .long ((31 * v1) + r56.toInt64)), (0, rf V 66), (3, .int v3)]) d_Md_digest_90 rfl rfl ic_1 (by decide) rfl ?_
      refine J_goto (tgt := 68) d_Md_digest_93 (by decide) ?_
      refine J_pick [2, 1, 3, 0] rfl ?_
      exact ih _ _ _ _ hf
def f_Md_digest_57 : Nat → Sg → Int64 → Int32 → Option (Int64 × Sg)
  | 0, _, _, _ => none
  | n + 1, σ, v1, v3 =>
    if (σ.1 66 8) ≤ v3 then
      (f_Md_findPutOff σ).bind fun σ10 =>
        f_Md_digest_200 FU σ10 v1 0
    else
      f_Md_digest_68 (f_Md_digest_57 n) FU σ v1 v3 0
theorem f_Md_digest_57_s (n : Nat) (σ : Sg) (v1 : Int64) (v3 : Int32) : f_Md_digest_57 (n + 1) σ v1 v3 =
    if (σ.1 66 8) ≤ v3 then
      (f_Md_findPutOff σ).bind fun σ10 =>
        f_Md_digest_200 FU σ10 v1 0
    else
      f_Md_digest_68 (f_Md_digest_57 n) FU σ v1 v3 0 := rfl
set_option maxHeartbeats 4000000 in
theorem j_Md_digest_57 {V : Vx} {X : Xx} {r : Int64} {σ' : Sg}  : ∀ (n : Nat) (σ : Sg) (v1 : Int64) (v3 : Int32), f_Md_digest_57 n σ v1 v3 = some (r, σ') → J V X (k2_rm 7 159) c_Md_digest R_Md 5 (some .long) (Qr V X (some (.long r)) σ') σ 57 [(0, rf V 66), (1, .long v1), (3, .int v3)] [] := by
  intro n
  induction n with
  | zero => intro σ v1 v3 hf; exact nn hf
  | succ n ih =>
    intro σ v1 v3 hf
    rw [f_Md_digest_57_s] at hf
    refine J_iload_n (pc' := 58) d_Md_digest_57 rfl 2 rfl ?_
    refine J_aload_n (pc' := 59) d_Md_digest_58 rfl 0 rfl ?_
    refine J_getI (pc' := 62) d_Md_digest_59 rfl sh_66 fl_Md_114 rfl ?_
    refine J_icmp_ge (pc' := 65) (tgt := 194) d_Md_digest_62 rfl (by decide) (fun hc8 => ?_) (fun hc8 => ?_)
    · have hf := brT hc8 hf
      refine J_aload_n (pc' := 195) d_Md_digest_194 rfl 0 rfl ?_
      obtain ⟨σ10, hq9, hf⟩ := bpE hf
      refine J_V (pc' := 198) (as := []) (rest := []) (st' := []) d_Md_digest_195 rfl sh_66 rfl mv_Md_243 (ct_Md_findPutOff V _ σ hq9) rfl rfl ⟨Nat.le_of_ble_eq_true rfl, Nat.le_of_ble_eq_true rfl⟩ ⟨rfl, rfl⟩ (Nat.le_of_ble_eq_true rfl) rfl ?_
      refine J_iconst (pc' := 199) (v := 0) d_Md_digest_198 rfl ic_0 ?_
      refine J_istore_n (pc' := 200) (lv' := [(3, .int 0), (0, rf V 66), (1, .long v1)]) d_Md_digest_199 rfl rfl (by decide) rfl ?_
      refine J_pick [1, 2, 0] rfl ?_
      exact j_Md_digest_200 FU _ _ _ hf
    · have hf := brF hc8 hf
      refine J_iconst (pc' := 66) (v := 0) d_Md_digest_65 rfl ic_0 ?_
      refine J_istore (pc' := 68) (lv' := [(4, .int 0), (0, rf V 66), (1, .long v1), (3, .int v3)]) d_Md_digest_66 rfl (by decide) rfl ?_
      refine J_pick [1, 2, 3, 0] rfl ?_
      exact j_Md_digest_68 ih FU _ _ _ _ hf
def f_Md_digest_6 : Nat → Sg → Int64 → Int32 → Option (Int64 × Sg)
  | 0, _, _, _ => none
  | n + 1, σ, v1, v3 =>
    if 8 ≤ v3 then
      bd (f_Md_readsRopes σ) fun r4 σ3 =>
        bd (f_Md_find σ3) fun r7 σ6 =>
          f_Md_digest_57 FU σ6 ((31 * ((31 * v1) + r4.toInt64)) + r7.toInt64) 0
    else
      bd (f_Md_count σ v3) fun r59 σ58 =>
        f_Md_digest_6 n σ58 ((31 * v1) + r59.toInt64) (v3 + 1)
theorem f_Md_digest_6_s (n : Nat) (σ : Sg) (v1 : Int64) (v3 : Int32) : f_Md_digest_6 (n + 1) σ v1 v3 =
    if 8 ≤ v3 then
      bd (f_Md_readsRopes σ) fun r4 σ3 =>
        bd (f_Md_find σ3) fun r7 σ6 =>
          f_Md_digest_57 FU σ6 ((31 * ((31 * v1) + r4.toInt64)) + r7.toInt64) 0
    else
      bd (f_Md_count σ v3) fun r59 σ58 =>
        f_Md_digest_6 n σ58 ((31 * v1) + r59.toInt64) (v3 + 1) := rfl
set_option maxHeartbeats 4000000 in
theorem j_Md_digest_6 {V : Vx} {X : Xx} {r : Int64} {σ' : Sg}  : ∀ (n : Nat) (σ : Sg) (v1 : Int64) (v3 : Int32), f_Md_digest_6 n σ v1 v3 = some (r, σ') → J V X (k2_rm 7 159) c_Md_digest R_Md 5 (some .long) (Qr V X (some (.long r)) σ') σ 6 [(0, rf V 66), (1, .long v1), (3, .int v3)] [] := by
  intro n
  induction n with
  | zero => intro σ v1 v3 hf; exact nn hf
  | succ n ih =>
    intro σ v1 v3 hf
    rw [f_Md_digest_6_s] at hf
    refine J_iload_n (pc' := 7) d_Md_digest_6 rfl 2 rfl ?_
    refine J_bipush (pc' := 9) (v := 8) d_Md_digest_7 rfl bc_8 ?_
    refine J_icmp_ge (pc' := 12) (tgt := 31) d_Md_digest_9 rfl (by decide) (fun hc1 => ?_) (fun hc1 => ?_)
    · have hf := brT hc1 hf
      refine J_ldc2 (pc' := 34) (v := 31) d_Md_digest_31 rfl cw_Md_324 ?_
      refine J_lload_n (pc' := 35) d_Md_digest_34 rfl 1 rfl ?_
      refine J_lmul (pc' := 36) d_Md_digest_35 rfl ?_
      refine J_aload_n (pc' := 37) d_Md_digest_36 rfl 0 rfl ?_
      obtain ⟨r4, σ3, hq2, hf⟩ := bdE hf
      refine J_V (pc' := 40) (as := []) (rest := [.long (31 * v1)]) (st' := [.int r4, .long (31 * v1)]) d_Md_digest_37 rfl sh_66 rfl mv_Md_131 (ct_Md_readsRopes V _ σ hq2) rfl rfl ⟨Nat.le_of_ble_eq_true rfl, Nat.le_of_ble_eq_true rfl⟩ ⟨rfl, rfl⟩ (Nat.le_of_ble_eq_true rfl) rfl ?_
      refine J_i2l (pc' := 41) d_Md_digest_40 rfl ?_
      refine J_ladd (pc' := 42) d_Md_digest_41 rfl ?_
      refine J_lstore_n (pc' := 43) (lv' := [(1, .long ((31 * v1) + r4.toInt64)), (0, rf V 66), (3, .int v3)]) d_Md_digest_42 rfl rfl (by decide) rfl ?_
      refine J_ldc2 (pc' := 46) (v := 31) d_Md_digest_43 rfl cw_Md_324 ?_
      refine J_lload_n (pc' := 47) d_Md_digest_46 rfl 0 rfl ?_
      refine J_lmul (pc' := 48) d_Md_digest_47 rfl ?_
      refine J_aload_n (pc' := 49) d_Md_digest_48 rfl 1 rfl ?_
      obtain ⟨r7, σ6, hq5, hf⟩ := bdE hf
      refine J_V (pc' := 52) (as := []) (rest := [.long (31 * ((31 * v1) + r4.toInt64))]) (st' := [.int r7, .long (31 * ((31 * v1) + r4.toInt64))]) d_Md_digest_49 rfl sh_66 rfl mv_Md_137 (ct_Md_find V _ σ3 hq5) rfl rfl ⟨Nat.le_of_ble_eq_true rfl, Nat.le_of_ble_eq_true rfl⟩ ⟨rfl, rfl⟩ (Nat.le_of_ble_eq_true rfl) rfl ?_
      refine J_i2l (pc' := 53) d_Md_digest_52 rfl ?_
      refine J_ladd (pc' := 54) d_Md_digest_53 rfl ?_
      refine J_lstore_n (pc' := 55) (lv' := [(1, .long ((31 * ((31 * v1) + r4.toInt64)) + r7.toInt64)), (0, rf V 66), (3, .int v3)]) d_Md_digest_54 rfl rfl (by decide) rfl ?_
      refine J_iconst (pc' := 56) (v := 0) d_Md_digest_55 rfl ic_0 ?_
      refine J_istore_n (pc' := 57) (lv' := [(3, .int 0), (1, .long ((31 * ((31 * v1) + r4.toInt64)) + r7.toInt64)), (0, rf V 66)]) d_Md_digest_56 rfl rfl (by decide) rfl ?_
      refine J_pick [2, 1, 0] rfl ?_
      exact j_Md_digest_57 FU _ _ _ hf
    · have hf := brF hc1 hf
      refine J_ldc2 (pc' := 15) (v := 31) d_Md_digest_12 rfl cw_Md_324 ?_
      refine J_lload_n (pc' := 16) d_Md_digest_15 rfl 1 rfl ?_
      refine J_lmul (pc' := 17) d_Md_digest_16 rfl ?_
      refine J_aload_n (pc' := 18) d_Md_digest_17 rfl 0 rfl ?_
      refine J_iload_n (pc' := 19) d_Md_digest_18 rfl 2 rfl ?_
      obtain ⟨r59, σ58, hq57, hf⟩ := bdE hf
      refine J_V (pc' := 22) (as := [.int v3]) (rest := [.long (31 * v1)]) (st' := [.int r59, .long (31 * v1)]) d_Md_digest_19 rfl sh_66 rfl mv_Md_326 (ct_Md_count V _ σ v3 hq57) rfl rfl ⟨Nat.le_of_ble_eq_true rfl, Nat.le_of_ble_eq_true rfl⟩ ⟨rfl, rfl⟩ (Nat.le_of_ble_eq_true rfl) rfl ?_
      refine J_i2l (pc' := 23) d_Md_digest_22 rfl ?_
      refine J_ladd (pc' := 24) d_Md_digest_23 rfl ?_
      refine J_lstore_n (pc' := 25) (lv' := [(1, .long ((31 * v1) + r59.toInt64)), (0, rf V 66), (3, .int v3)]) d_Md_digest_24 rfl rfl (by decide) rfl ?_
      refine J_iinc (pc' := 28) (j := 2) (v := 1) (lv' := [(3, .int (v3 + 1)), (1, .long ((31 * v1) + r59.toInt64)), (0, rf V 66)]) d_Md_digest_25 rfl rfl ic_1 (by decide) rfl ?_
      refine J_goto (tgt := 6) d_Md_digest_28 (by decide) ?_
      refine J_pick [2, 1, 0] rfl ?_
      exact ih _ _ _ hf
def f_Md_digest (σ : Sg)  : Option (Int64 × Sg) :=
  f_Md_digest_6 FU σ 17 0
set_option maxHeartbeats 4000000 in
theorem j_Md_digest {V : Vx} {X : Xx} {r : Int64} {σ' : Sg} (σ : Sg) (hf : f_Md_digest σ = some (r, σ')) : J V X (k2_rm 7 159) c_Md_digest R_Md 5 (some .long) (Qr V X (some (.long r)) σ') σ 0 [(0, rf V 66)] [] := by
  unfold f_Md_digest at hf
  refine J_ldc2 (pc' := 3) (v := 17) d_Md_digest_0 rfl cw_Md_322 ?_
  refine J_lstore_n (pc' := 4) (lv' := [(1, .long 17), (0, rf V 66)]) d_Md_digest_3 rfl rfl (by decide) rfl ?_
  refine J_iconst (pc' := 5) (v := 0) d_Md_digest_4 rfl ic_0 ?_
  refine J_istore_n (pc' := 6) (lv' := [(3, .int 0), (1, .long 17), (0, rf V 66)]) d_Md_digest_5 rfl rfl (by decide) rfl ?_
  refine J_pick [2, 1, 0] rfl ?_
  exact j_Md_digest_6 FU _ _ _ hf
theorem ct_Md_digest (V : Vx) (l : Launch) (σ : Sg) {r : Int64} {σ' : Sg} (hf : f_Md_digest σ = some (r, σ')) : Ct V l y_Md_digest c_Md_digest 5 (some .long) (k2_rm 7 159) [rf V 66] σ (some (.long r)) σ' := Ct.ofJ (by decide +kernel) (Nat.le_of_ble_eq_true rfl) fun X _ => j_Md_digest _  hf
