theorem dX11_init_0 : decode cX11_init 0 = .ok (.aload_n 0, 1) := by decide +kernel
theorem dX11_init_1 : decode cX11_init 1 = .ok (.invokespecial 1, 3) := by decide +kernel
theorem dX11_init_4 : decode cX11_init 4 = .ok (.aload_n 0, 1) := by decide +kernel
theorem dX11_init_5 : decode cX11_init 5 = .ok (.bipush 16, 2) := by decide +kernel
theorem dX11_init_7 : decode cX11_init 7 = .ok (.newarray .int, 2) := by decide +kernel
theorem dX11_init_9 : decode cX11_init 9 = .ok (.putfield 7, 3) := by decide +kernel
theorem dX11_init_12 : decode cX11_init 12 = .ok (.aload_n 0, 1) := by decide +kernel
theorem dX11_init_13 : decode cX11_init 13 = .ok (.bipush 40, 2) := by decide +kernel
theorem dX11_init_15 : decode cX11_init 15 = .ok (.newarray .int, 2) := by decide +kernel
theorem dX11_init_17 : decode cX11_init 17 = .ok (.putfield 13, 3) := by decide +kernel
theorem dX11_init_20 : decode cX11_init 20 = .ok (.aload_n 0, 1) := by decide +kernel
theorem dX11_init_21 : decode cX11_init 21 = .ok (.bipush 40, 2) := by decide +kernel
theorem dX11_init_23 : decode cX11_init 23 = .ok (.newarray .int, 2) := by decide +kernel
theorem dX11_init_25 : decode cX11_init 25 = .ok (.putfield 16, 3) := by decide +kernel
theorem dX11_init_28 : decode cX11_init 28 = .ok (.aload_n 0, 1) := by decide +kernel
theorem dX11_init_29 : decode cX11_init 29 = .ok (.bipush 16, 2) := by decide +kernel
theorem dX11_init_31 : decode cX11_init 31 = .ok (.newarray .int, 2) := by decide +kernel
theorem dX11_init_33 : decode cX11_init 33 = .ok (.putfield 19, 3) := by decide +kernel
theorem dX11_init_36 : decode cX11_init 36 = .ok (.aload_n 0, 1) := by decide +kernel
theorem dX11_init_37 : decode cX11_init 37 = .ok (.bipush 120, 2) := by decide +kernel
theorem dX11_init_39 : decode cX11_init 39 = .ok (.newarray .int, 2) := by decide +kernel
theorem dX11_init_41 : decode cX11_init 41 = .ok (.putfield 22, 3) := by decide +kernel
theorem dX11_init_44 : decode cX11_init 44 = .ok (.aload_n 0, 1) := by decide +kernel
theorem dX11_init_45 : decode cX11_init 45 = .ok (.iconst 4, 1) := by decide +kernel
theorem dX11_init_46 : decode cX11_init 46 = .ok (.newarray .int, 2) := by decide +kernel
theorem dX11_init_48 : decode cX11_init 48 = .ok (.putfield 25, 3) := by decide +kernel
theorem dX11_init_51 : decode cX11_init 51 = .ok (.aload_n 0, 1) := by decide +kernel
theorem dX11_init_52 : decode cX11_init 52 = .ok (.iconst 4, 1) := by decide +kernel
theorem dX11_init_53 : decode cX11_init 53 = .ok (.newarray .int, 2) := by decide +kernel
theorem dX11_init_55 : decode cX11_init 55 = .ok (.putfield 28, 3) := by decide +kernel
theorem dX11_init_58 : decode cX11_init 58 = .ok (.aload_n 0, 1) := by decide +kernel
theorem dX11_init_59 : decode cX11_init 59 = .ok (.iconst 4, 1) := by decide +kernel
theorem dX11_init_60 : decode cX11_init 60 = .ok (.newarray .int, 2) := by decide +kernel
theorem dX11_init_62 : decode cX11_init 62 = .ok (.putfield 31, 3) := by decide +kernel
theorem dX11_init_65 : decode cX11_init 65 = .ok (.aload_n 0, 1) := by decide +kernel
theorem dX11_init_66 : decode cX11_init 66 = .ok (.iconst 4, 1) := by decide +kernel
theorem dX11_init_67 : decode cX11_init 67 = .ok (.newarray .int, 2) := by decide +kernel
theorem dX11_init_69 : decode cX11_init 69 = .ok (.putfield 34, 3) := by decide +kernel
theorem dX11_init_72 : decode cX11_init 72 = .ok (.aload_n 0, 1) := by decide +kernel
theorem dX11_init_73 : decode cX11_init 73 = .ok (.sipush 500, 3) := by decide +kernel
theorem dX11_init_76 : decode cX11_init 76 = .ok (.newarray .int, 2) := by decide +kernel
theorem dX11_init_78 : decode cX11_init 78 = .ok (.putfield 37, 3) := by decide +kernel
theorem dX11_init_81 : decode cX11_init 81 = .ok (.aload_n 0, 1) := by decide +kernel
theorem dX11_init_82 : decode cX11_init 82 = .ok (.iconst (-1), 1) := by decide +kernel
theorem dX11_init_83 : decode cX11_init 83 = .ok (.putfield 40, 3) := by decide +kernel
theorem dX11_init_86 : decode cX11_init 86 = .ok (.aload_n 0, 1) := by decide +kernel
theorem dX11_init_87 : decode cX11_init 87 = .ok (.bipush 16, 2) := by decide +kernel
theorem dX11_init_89 : decode cX11_init 89 = .ok (.newarray .int, 2) := by decide +kernel
theorem dX11_init_91 : decode cX11_init 91 = .ok (.putfield 44, 3) := by decide +kernel
theorem dX11_init_94 : decode cX11_init 94 = .ok (.aload_n 0, 1) := by decide +kernel
theorem dX11_init_95 : decode cX11_init 95 = .ok (.bipush 40, 2) := by decide +kernel
theorem dX11_init_97 : decode cX11_init 97 = .ok (.newarray .int, 2) := by decide +kernel
theorem dX11_init_99 : decode cX11_init 99 = .ok (.putfield 47, 3) := by decide +kernel
theorem dX11_init_102 : decode cX11_init 102 = .ok (.aload_n 0, 1) := by decide +kernel
theorem dX11_init_103 : decode cX11_init 103 = .ok (.bipush 40, 2) := by decide +kernel
theorem dX11_init_105 : decode cX11_init 105 = .ok (.newarray .int, 2) := by decide +kernel
theorem dX11_init_107 : decode cX11_init 107 = .ok (.putfield 50, 3) := by decide +kernel
theorem dX11_init_110 : decode cX11_init 110 = .ok (.aload_n 0, 1) := by decide +kernel
theorem dX11_init_111 : decode cX11_init 111 = .ok (.bipush 120, 2) := by decide +kernel
theorem dX11_init_113 : decode cX11_init 113 = .ok (.newarray .int, 2) := by decide +kernel
theorem dX11_init_115 : decode cX11_init 115 = .ok (.putfield 53, 3) := by decide +kernel
theorem dX11_init_118 : decode cX11_init 118 = .ok (.aload_n 0, 1) := by decide +kernel
theorem dX11_init_119 : decode cX11_init 119 = .ok (.iconst 4, 1) := by decide +kernel
theorem dX11_init_120 : decode cX11_init 120 = .ok (.newarray .int, 2) := by decide +kernel
theorem dX11_init_122 : decode cX11_init 122 = .ok (.putfield 56, 3) := by decide +kernel
theorem dX11_init_125 : decode cX11_init 125 = .ok (.aload_n 0, 1) := by decide +kernel
theorem dX11_init_126 : decode cX11_init 126 = .ok (.iconst 4, 1) := by decide +kernel
theorem dX11_init_127 : decode cX11_init 127 = .ok (.newarray .int, 2) := by decide +kernel
theorem dX11_init_129 : decode cX11_init 129 = .ok (.putfield 59, 3) := by decide +kernel
theorem dX11_init_132 : decode cX11_init 132 = .ok (.aload_n 0, 1) := by decide +kernel
theorem dX11_init_133 : decode cX11_init 133 = .ok (.iconst (-1), 1) := by decide +kernel
theorem dX11_init_134 : decode cX11_init 134 = .ok (.putfield 62, 3) := by decide +kernel
theorem dX11_init_137 : decode cX11_init 137 = .ok (.aload_n 0, 1) := by decide +kernel
theorem dX11_init_138 : decode cX11_init 138 = .ok (.ldc 65, 2) := by decide +kernel
theorem dX11_init_140 : decode cX11_init 140 = .ok (.newarray .int, 2) := by decide +kernel
theorem dX11_init_142 : decode cX11_init 142 = .ok (.putfield 66, 3) := by decide +kernel
theorem dX11_init_145 : decode cX11_init 145 = .ok (.aload_n 0, 1) := by decide +kernel
theorem dX11_init_146 : decode cX11_init 146 = .ok (.ldc 65, 2) := by decide +kernel
theorem dX11_init_148 : decode cX11_init 148 = .ok (.newarray .int, 2) := by decide +kernel
theorem dX11_init_150 : decode cX11_init 150 = .ok (.putfield 69, 3) := by decide +kernel
theorem dX11_init_153 : decode cX11_init 153 = .ok (.aload_n 0, 1) := by decide +kernel
theorem dX11_init_154 : decode cX11_init 154 = .ok (.ldc 65, 2) := by decide +kernel
theorem dX11_init_156 : decode cX11_init 156 = .ok (.newarray .int, 2) := by decide +kernel
theorem dX11_init_158 : decode cX11_init 158 = .ok (.putfield 72, 3) := by decide +kernel
theorem dX11_init_161 : decode cX11_init 161 = .ok (.aload_n 0, 1) := by decide +kernel
theorem dX11_init_162 : decode cX11_init 162 = .ok (.ldc 65, 2) := by decide +kernel
theorem dX11_init_164 : decode cX11_init 164 = .ok (.newarray .int, 2) := by decide +kernel
theorem dX11_init_166 : decode cX11_init 166 = .ok (.putfield 75, 3) := by decide +kernel
theorem dX11_init_169 : decode cX11_init 169 = .ok (.aload_n 0, 1) := by decide +kernel
theorem dX11_init_170 : decode cX11_init 170 = .ok (.ldc 78, 2) := by decide +kernel
theorem dX11_init_172 : decode cX11_init 172 = .ok (.newarray .int, 2) := by decide +kernel
theorem dX11_init_174 : decode cX11_init 174 = .ok (.putfield 79, 3) := by decide +kernel
theorem dX11_init_177 : decode cX11_init 177 = .ok (.aload_n 0, 1) := by decide +kernel
theorem dX11_init_178 : decode cX11_init 178 = .ok (.ldc 78, 2) := by decide +kernel
theorem dX11_init_180 : decode cX11_init 180 = .ok (.newarray .int, 2) := by decide +kernel
theorem dX11_init_182 : decode cX11_init 182 = .ok (.putfield 82, 3) := by decide +kernel
theorem dX11_init_185 : decode cX11_init 185 = .ok (.aload_n 0, 1) := by decide +kernel
theorem dX11_init_186 : decode cX11_init 186 = .ok (.ldc 65, 2) := by decide +kernel
theorem dX11_init_188 : decode cX11_init 188 = .ok (.newarray .int, 2) := by decide +kernel
theorem dX11_init_190 : decode cX11_init 190 = .ok (.putfield 85, 3) := by decide +kernel
theorem dX11_init_193 : decode cX11_init 193 = .ok (.aload_n 0, 1) := by decide +kernel
theorem dX11_init_194 : decode cX11_init 194 = .ok (.ldc 65, 2) := by decide +kernel
theorem dX11_init_196 : decode cX11_init 196 = .ok (.newarray .int, 2) := by decide +kernel
theorem dX11_init_198 : decode cX11_init 198 = .ok (.putfield 88, 3) := by decide +kernel
theorem dX11_init_201 : decode cX11_init 201 = .ok (.aload_n 0, 1) := by decide +kernel
theorem dX11_init_202 : decode cX11_init 202 = .ok (.sipush 1600, 3) := by decide +kernel
theorem dX11_init_205 : decode cX11_init 205 = .ok (.newarray .boolean, 2) := by decide +kernel
theorem dX11_init_207 : decode cX11_init 207 = .ok (.putfield 91, 3) := by decide +kernel
theorem dX11_init_210 : decode cX11_init 210 = .ok (.aload_n 0, 1) := by decide +kernel
theorem dX11_init_211 : decode cX11_init 211 = .ok (.ldc 65, 2) := by decide +kernel
theorem dX11_init_213 : decode cX11_init 213 = .ok (.newarray .int, 2) := by decide +kernel
theorem dX11_init_215 : decode cX11_init 215 = .ok (.putfield 95, 3) := by decide +kernel
theorem dX11_init_218 : decode cX11_init 218 = .ok (.aload_n 0, 1) := by decide +kernel
theorem dX11_init_219 : decode cX11_init 219 = .ok (.sipush 256, 3) := by decide +kernel
theorem dX11_init_222 : decode cX11_init 222 = .ok (.newarray .boolean, 2) := by decide +kernel
theorem dX11_init_224 : decode cX11_init 224 = .ok (.putfield 98, 3) := by decide +kernel
theorem dX11_init_227 : decode cX11_init 227 = .ok (.aload_n 0, 1) := by decide +kernel
theorem dX11_init_228 : decode cX11_init 228 = .ok (.sipush 4096, 3) := by decide +kernel
theorem dX11_init_231 : decode cX11_init 231 = .ok (.newarray .boolean, 2) := by decide +kernel
theorem dX11_init_233 : decode cX11_init 233 = .ok (.putfield 101, 3) := by decide +kernel
theorem dX11_init_236 : decode cX11_init 236 = .ok (.aload_n 0, 1) := by decide +kernel
theorem dX11_init_237 : decode cX11_init 237 = .ok (.ldc 104, 2) := by decide +kernel
theorem dX11_init_239 : decode cX11_init 239 = .ok (.newarray .int, 2) := by decide +kernel
theorem dX11_init_241 : decode cX11_init 241 = .ok (.putfield 105, 3) := by decide +kernel
theorem dX11_init_244 : decode cX11_init 244 = .ok (.aload_n 0, 1) := by decide +kernel
theorem dX11_init_245 : decode cX11_init 245 = .ok (.ldc 104, 2) := by decide +kernel
theorem dX11_init_247 : decode cX11_init 247 = .ok (.newarray .int, 2) := by decide +kernel
theorem dX11_init_249 : decode cX11_init 249 = .ok (.putfield 108, 3) := by decide +kernel
theorem dX11_init_252 : decode cX11_init 252 = .ok (.aload_n 0, 1) := by decide +kernel
theorem dX11_init_253 : decode cX11_init 253 = .ok (.bipush 40, 2) := by decide +kernel
theorem dX11_init_255 : decode cX11_init 255 = .ok (.newarray .int, 2) := by decide +kernel
theorem dX11_init_257 : decode cX11_init 257 = .ok (.putfield 111, 3) := by decide +kernel
theorem dX11_init_260 : decode cX11_init 260 = .ok (.aload_n 0, 1) := by decide +kernel
theorem dX11_init_261 : decode cX11_init 261 = .ok (.bipush 40, 2) := by decide +kernel
theorem dX11_init_263 : decode cX11_init 263 = .ok (.newarray .int, 2) := by decide +kernel
theorem dX11_init_265 : decode cX11_init 265 = .ok (.putfield 114, 3) := by decide +kernel
theorem dX11_init_268 : decode cX11_init 268 = .ok (.aload_n 0, 1) := by decide +kernel
theorem dX11_init_269 : decode cX11_init 269 = .ok (.bipush 20, 2) := by decide +kernel
theorem dX11_init_271 : decode cX11_init 271 = .ok (.newarray .int, 2) := by decide +kernel
theorem dX11_init_273 : decode cX11_init 273 = .ok (.putfield 117, 3) := by decide +kernel
theorem dX11_init_276 : decode cX11_init 276 = .ok (.aload_n 0, 1) := by decide +kernel
theorem dX11_init_277 : decode cX11_init 277 = .ok (.bipush 20, 2) := by decide +kernel
theorem dX11_init_279 : decode cX11_init 279 = .ok (.newarray .int, 2) := by decide +kernel
theorem dX11_init_281 : decode cX11_init 281 = .ok (.putfield 120, 3) := by decide +kernel
theorem dX11_init_284 : decode cX11_init 284 = .ok (.aload_n 0, 1) := by decide +kernel
theorem dX11_init_285 : decode cX11_init 285 = .ok (.bipush 20, 2) := by decide +kernel
theorem dX11_init_287 : decode cX11_init 287 = .ok (.newarray .boolean, 2) := by decide +kernel
theorem dX11_init_289 : decode cX11_init 289 = .ok (.putfield 123, 3) := by decide +kernel
theorem dX11_init_292 : decode cX11_init 292 = .ok (.aload_n 0, 1) := by decide +kernel
theorem dX11_init_293 : decode cX11_init 293 = .ok (.ldc 65, 2) := by decide +kernel
theorem dX11_init_295 : decode cX11_init 295 = .ok (.newarray .int, 2) := by decide +kernel
theorem dX11_init_297 : decode cX11_init 297 = .ok (.putfield 126, 3) := by decide +kernel
theorem dX11_init_300 : decode cX11_init 300 = .ok (.aload_n 0, 1) := by decide +kernel
theorem dX11_init_301 : decode cX11_init 301 = .ok (.ldc 65, 2) := by decide +kernel
theorem dX11_init_303 : decode cX11_init 303 = .ok (.newarray .int, 2) := by decide +kernel
theorem dX11_init_305 : decode cX11_init 305 = .ok (.putfield 129, 3) := by decide +kernel
theorem dX11_init_308 : decode cX11_init 308 = .ok (.aload_n 0, 1) := by decide +kernel
theorem dX11_init_309 : decode cX11_init 309 = .ok (.ldc 65, 2) := by decide +kernel
theorem dX11_init_311 : decode cX11_init 311 = .ok (.newarray .int, 2) := by decide +kernel
theorem dX11_init_313 : decode cX11_init 313 = .ok (.putfield 132, 3) := by decide +kernel
theorem dX11_init_316 : decode cX11_init 316 = .ok (.aload_n 0, 1) := by decide +kernel
theorem dX11_init_317 : decode cX11_init 317 = .ok (.sipush 280, 3) := by decide +kernel
theorem dX11_init_320 : decode cX11_init 320 = .ok (.newarray .int, 2) := by decide +kernel
theorem dX11_init_322 : decode cX11_init 322 = .ok (.putfield 135, 3) := by decide +kernel
theorem dX11_init_325 : decode cX11_init 325 = .ok (.aload_n 0, 1) := by decide +kernel
theorem dX11_init_326 : decode cX11_init 326 = .ok (.iconst 2, 1) := by decide +kernel
theorem dX11_init_327 : decode cX11_init 327 = .ok (.newarray .boolean, 2) := by decide +kernel
theorem dX11_init_329 : decode cX11_init 329 = .ok (.putfield 138, 3) := by decide +kernel
theorem dX11_init_332 : decode cX11_init 332 = .ok (.aload_n 0, 1) := by decide +kernel
theorem dX11_init_333 : decode cX11_init 333 = .ok (.iconst 0, 1) := by decide +kernel
theorem dX11_init_334 : decode cX11_init 334 = .ok (.putfield 141, 3) := by decide +kernel
theorem dX11_init_337 : decode cX11_init 337 = .ok (.return_, 1) := by decide +kernel
theorem dX11_in_0 : decode cX11_in 0 = .ok (.lload_n 0, 1) := by decide +kernel
theorem dX11_in_1 : decode cX11_in 1 = .ok (.lload_n 2, 1) := by decide +kernel
theorem dX11_in_2 : decode cX11_in 2 = .ok (.lcmp, 1) := by decide +kernel
theorem dX11_in_3 : decode cX11_in 3 = .ok (.ifCond .lt 14, 3) := by decide +kernel
theorem dX11_in_6 : decode cX11_in 6 = .ok (.lload_n 0, 1) := by decide +kernel
theorem dX11_in_7 : decode cX11_in 7 = .ok (.lload 4, 2) := by decide +kernel
theorem dX11_in_9 : decode cX11_in 9 = .ok (.lcmp, 1) := by decide +kernel
theorem dX11_in_10 : decode cX11_in 10 = .ok (.ifCond .gt 7, 3) := by decide +kernel
theorem dX11_in_13 : decode cX11_in 13 = .ok (.iconst 1, 1) := by decide +kernel
theorem dX11_in_14 : decode cX11_in 14 = .ok (.goto 4, 3) := by decide +kernel
theorem dX11_in_17 : decode cX11_in 17 = .ok (.iconst 0, 1) := by decide +kernel
theorem dX11_in_18 : decode cX11_in 18 = .ok (.ireturn, 1) := by decide +kernel
theorem dX11_has_0 : decode cX11_has 0 = .ok (.iload_n 0, 1) := by decide +kernel
theorem dX11_has_1 : decode cX11_has 1 = .ok (.iload_n 1, 1) := by decide +kernel
theorem dX11_has_2 : decode cX11_has 2 = .ok (.ishr, 1) := by decide +kernel
theorem dX11_has_3 : decode cX11_has 3 = .ok (.iconst 1, 1) := by decide +kernel
theorem dX11_has_4 : decode cX11_has 4 = .ok (.iand, 1) := by decide +kernel
theorem dX11_has_5 : decode cX11_has 5 = .ok (.iconst 1, 1) := by decide +kernel
theorem dX11_has_6 : decode cX11_has 6 = .ok (.if_icmp .ne 7, 3) := by decide +kernel
theorem dX11_has_9 : decode cX11_has 9 = .ok (.iconst 1, 1) := by decide +kernel
theorem dX11_has_10 : decode cX11_has 10 = .ok (.goto 4, 3) := by decide +kernel
theorem dX11_has_13 : decode cX11_has 13 = .ok (.iconst 0, 1) := by decide +kernel
theorem dX11_has_14 : decode cX11_has 14 = .ok (.ireturn, 1) := by decide +kernel
theorem dX11_isPerson_0 : decode cX11_isPerson 0 = .ok (.iload_n 1, 1) := by decide +kernel
theorem dX11_isPerson_1 : decode cX11_isPerson 1 = .ok (.i2l, 1) := by decide +kernel
theorem dX11_isPerson_2 : decode cX11_isPerson 2 = .ok (.lconst 0, 1) := by decide +kernel
theorem dX11_isPerson_3 : decode cX11_isPerson 3 = .ok (.aload_n 0, 1) := by decide +kernel
theorem dX11_isPerson_4 : decode cX11_isPerson 4 = .ok (.getfield 141, 3) := by decide +kernel
theorem dX11_isPerson_7 : decode cX11_isPerson 7 = .ok (.iconst 1, 1) := by decide +kernel
theorem dX11_isPerson_8 : decode cX11_isPerson 8 = .ok (.isub, 1) := by decide +kernel
theorem dX11_isPerson_9 : decode cX11_isPerson 9 = .ok (.i2l, 1) := by decide +kernel
theorem dX11_isPerson_10 : decode cX11_isPerson 10 = .ok (.invokestatic 144, 3) := by decide +kernel
theorem dX11_isPerson_13 : decode cX11_isPerson 13 = .ok (.ireturn, 1) := by decide +kernel
theorem dX11_isQuarrel_0 : decode cX11_isQuarrel 0 = .ok (.iload_n 1, 1) := by decide +kernel
theorem dX11_isQuarrel_1 : decode cX11_isQuarrel 1 = .ok (.i2l, 1) := by decide +kernel
theorem dX11_isQuarrel_2 : decode cX11_isQuarrel 2 = .ok (.lconst 0, 1) := by decide +kernel
theorem dX11_isQuarrel_3 : decode cX11_isQuarrel 3 = .ok (.aload_n 0, 1) := by decide +kernel
theorem dX11_isQuarrel_4 : decode cX11_isQuarrel 4 = .ok (.getfield 148, 3) := by decide +kernel
theorem dX11_isQuarrel_7 : decode cX11_isQuarrel 7 = .ok (.iconst 1, 1) := by decide +kernel
theorem dX11_isQuarrel_8 : decode cX11_isQuarrel 8 = .ok (.isub, 1) := by decide +kernel
theorem dX11_isQuarrel_9 : decode cX11_isQuarrel 9 = .ok (.i2l, 1) := by decide +kernel
theorem dX11_isQuarrel_10 : decode cX11_isQuarrel 10 = .ok (.invokestatic 144, 3) := by decide +kernel
theorem dX11_isQuarrel_13 : decode cX11_isQuarrel 13 = .ok (.ireturn, 1) := by decide +kernel
theorem dX11_isSide_0 : decode cX11_isSide 0 = .ok (.iload_n 0, 1) := by decide +kernel
theorem dX11_isSide_1 : decode cX11_isSide 1 = .ok (.i2l, 1) := by decide +kernel
theorem dX11_isSide_2 : decode cX11_isSide 2 = .ok (.lconst 0, 1) := by decide +kernel
theorem dX11_isSide_3 : decode cX11_isSide 3 = .ok (.lconst 1, 1) := by decide +kernel
theorem dX11_isSide_4 : decode cX11_isSide 4 = .ok (.invokestatic 144, 3) := by decide +kernel
theorem dX11_isSide_7 : decode cX11_isSide 7 = .ok (.ireturn, 1) := by decide +kernel
theorem dX11_bits_0 : decode cX11_bits 0 = .ok (.iconst 0, 1) := by decide +kernel
theorem dX11_bits_1 : decode cX11_bits 1 = .ok (.istore_n 1, 1) := by decide +kernel
theorem dX11_bits_2 : decode cX11_bits 2 = .ok (.iconst 0, 1) := by decide +kernel
theorem dX11_bits_3 : decode cX11_bits 3 = .ok (.istore_n 2, 1) := by decide +kernel
theorem dX11_bits_4 : decode cX11_bits 4 = .ok (.iload_n 2, 1) := by decide +kernel
theorem dX11_bits_5 : decode cX11_bits 5 = .ok (.bipush 16, 2) := by decide +kernel
theorem dX11_bits_7 : decode cX11_bits 7 = .ok (.if_icmp .ge 17, 3) := by decide +kernel
theorem dX11_bits_10 : decode cX11_bits 10 = .ok (.iload_n 1, 1) := by decide +kernel
theorem dX11_bits_11 : decode cX11_bits 11 = .ok (.iload_n 0, 1) := by decide +kernel
theorem dX11_bits_12 : decode cX11_bits 12 = .ok (.iload_n 2, 1) := by decide +kernel
theorem dX11_bits_13 : decode cX11_bits 13 = .ok (.ishr, 1) := by decide +kernel
theorem dX11_bits_14 : decode cX11_bits 14 = .ok (.iconst 1, 1) := by decide +kernel
theorem dX11_bits_15 : decode cX11_bits 15 = .ok (.iand, 1) := by decide +kernel
theorem dX11_bits_16 : decode cX11_bits 16 = .ok (.iadd, 1) := by decide +kernel
theorem dX11_bits_17 : decode cX11_bits 17 = .ok (.istore_n 1, 1) := by decide +kernel
theorem dX11_bits_18 : decode cX11_bits 18 = .ok (.iinc 2 1, 3) := by decide +kernel
theorem dX11_bits_21 : decode cX11_bits 21 = .ok (.goto (-17), 3) := by decide +kernel
theorem dX11_bits_24 : decode cX11_bits 24 = .ok (.iload_n 1, 1) := by decide +kernel
theorem dX11_bits_25 : decode cX11_bits 25 = .ok (.ireturn, 1) := by decide +kernel
theorem dX11_feed_0 : decode cX11_feed 0 = .ok (.iload_n 1, 1) := by decide +kernel
theorem dX11_feed_1 : decode cX11_feed 1 = .ok (.i2l, 1) := by decide +kernel
theorem dX11_feed_2 : decode cX11_feed 2 = .ok (.lconst 1, 1) := by decide +kernel
theorem dX11_feed_3 : decode cX11_feed 3 = .ok (.ldc2_w 151, 3) := by decide +kernel
theorem dX11_feed_6 : decode cX11_feed 6 = .ok (.invokestatic 144, 3) := by decide +kernel
theorem dX11_feed_9 : decode cX11_feed 9 = .ok (.ifCond .ne 7, 3) := by decide +kernel
theorem dX11_feed_12 : decode cX11_feed 12 = .ok (.sipush (-1002), 3) := by decide +kernel
theorem dX11_feed_15 : decode cX11_feed 15 = .ok (.ireturn, 1) := by decide +kernel
theorem dX11_feed_16 : decode cX11_feed 16 = .ok (.aload_n 0, 1) := by decide +kernel
theorem dX11_feed_17 : decode cX11_feed 17 = .ok (.getfield 153, 3) := by decide +kernel
theorem dX11_feed_20 : decode cX11_feed 20 = .ok (.iload_n 1, 1) := by decide +kernel
theorem dX11_feed_21 : decode cX11_feed 21 = .ok (.iadd, 1) := by decide +kernel
theorem dX11_feed_22 : decode cX11_feed 22 = .ok (.sipush 500, 3) := by decide +kernel
theorem dX11_feed_25 : decode cX11_feed 25 = .ok (.if_icmp .le 7, 3) := by decide +kernel
theorem dX11_feed_28 : decode cX11_feed 28 = .ok (.sipush (-1004), 3) := by decide +kernel
theorem dX11_feed_31 : decode cX11_feed 31 = .ok (.ireturn, 1) := by decide +kernel
theorem dX11_feed_32 : decode cX11_feed 32 = .ok (.iload_n 1, 1) := by decide +kernel
theorem dX11_feed_33 : decode cX11_feed 33 = .ok (.iconst 1, 1) := by decide +kernel
theorem dX11_feed_34 : decode cX11_feed 34 = .ok (.isub, 1) := by decide +kernel
theorem dX11_feed_35 : decode cX11_feed 35 = .ok (.istore 4, 2) := by decide +kernel
theorem dX11_feed_37 : decode cX11_feed 37 = .ok (.iload 4, 2) := by decide +kernel
theorem dX11_feed_39 : decode cX11_feed 39 = .ok (.ifCond .lt 40, 3) := by decide +kernel
theorem dX11_feed_42 : decode cX11_feed 42 = .ok (.aload_n 0, 1) := by decide +kernel
theorem dX11_feed_43 : decode cX11_feed 43 = .ok (.getfield 37, 3) := by decide +kernel
theorem dX11_feed_46 : decode cX11_feed 46 = .ok (.aload_n 0, 1) := by decide +kernel
theorem dX11_feed_47 : decode cX11_feed 47 = .ok (.getfield 153, 3) := by decide +kernel
theorem dX11_feed_50 : decode cX11_feed 50 = .ok (.lload_n 2, 1) := by decide +kernel
theorem dX11_feed_51 : decode cX11_feed 51 = .ok (.bipush 8, 2) := by decide +kernel
theorem dX11_feed_53 : decode cX11_feed 53 = .ok (.iload 4, 2) := by decide +kernel
theorem dX11_feed_55 : decode cX11_feed 55 = .ok (.imul, 1) := by decide +kernel
theorem dX11_feed_56 : decode cX11_feed 56 = .ok (.lshr, 1) := by decide +kernel
theorem dX11_feed_57 : decode cX11_feed 57 = .ok (.ldc2_w 156, 3) := by decide +kernel
theorem dX11_feed_60 : decode cX11_feed 60 = .ok (.land, 1) := by decide +kernel
theorem dX11_feed_61 : decode cX11_feed 61 = .ok (.l2i, 1) := by decide +kernel
theorem dX11_feed_62 : decode cX11_feed 62 = .ok (.iastore, 1) := by decide +kernel
theorem dX11_feed_63 : decode cX11_feed 63 = .ok (.aload_n 0, 1) := by decide +kernel
theorem dX11_feed_64 : decode cX11_feed 64 = .ok (.dup, 1) := by decide +kernel
theorem dX11_feed_65 : decode cX11_feed 65 = .ok (.getfield 153, 3) := by decide +kernel
theorem dX11_feed_68 : decode cX11_feed 68 = .ok (.iconst 1, 1) := by decide +kernel
theorem dX11_feed_69 : decode cX11_feed 69 = .ok (.iadd, 1) := by decide +kernel
theorem dX11_feed_70 : decode cX11_feed 70 = .ok (.putfield 153, 3) := by decide +kernel
theorem dX11_feed_73 : decode cX11_feed 73 = .ok (.iinc 4 (-1), 3) := by decide +kernel
theorem dX11_feed_76 : decode cX11_feed 76 = .ok (.goto (-39), 3) := by decide +kernel
theorem dX11_feed_79 : decode cX11_feed 79 = .ok (.aload_n 0, 1) := by decide +kernel
theorem dX11_feed_80 : decode cX11_feed 80 = .ok (.getfield 153, 3) := by decide +kernel
theorem dX11_feed_83 : decode cX11_feed 83 = .ok (.ireturn, 1) := by decide +kernel
theorem dX11_here_0 : decode cX11_here 0 = .ok (.aload_n 0, 1) := by decide +kernel
theorem dX11_here_1 : decode cX11_here 1 = .ok (.getfield 158, 3) := by decide +kernel
theorem dX11_here_4 : decode cX11_here 4 = .ok (.aload_n 0, 1) := by decide +kernel
theorem dX11_here_5 : decode cX11_here 5 = .ok (.getfield 153, 3) := by decide +kernel
theorem dX11_here_8 : decode cX11_here 8 = .ok (.if_icmp .ge 30, 3) := by decide +kernel
theorem dX11_here_11 : decode cX11_here 11 = .ok (.aload_n 0, 1) := by decide +kernel
theorem dX11_here_12 : decode cX11_here 12 = .ok (.getfield 37, 3) := by decide +kernel
theorem dX11_here_15 : decode cX11_here 15 = .ok (.aload_n 0, 1) := by decide +kernel
theorem dX11_here_16 : decode cX11_here 16 = .ok (.getfield 158, 3) := by decide +kernel
theorem dX11_here_19 : decode cX11_here 19 = .ok (.iaload, 1) := by decide +kernel
theorem dX11_here_20 : decode cX11_here 20 = .ok (.bipush 32, 2) := by decide +kernel
theorem dX11_here_22 : decode cX11_here 22 = .ok (.if_icmp .ne 16, 3) := by decide +kernel
theorem dX11_here_25 : decode cX11_here 25 = .ok (.aload_n 0, 1) := by decide +kernel
theorem dX11_here_26 : decode cX11_here 26 = .ok (.dup, 1) := by decide +kernel
theorem dX11_here_27 : decode cX11_here 27 = .ok (.getfield 158, 3) := by decide +kernel
theorem dX11_here_30 : decode cX11_here 30 = .ok (.iconst 1, 1) := by decide +kernel
theorem dX11_here_31 : decode cX11_here 31 = .ok (.iadd, 1) := by decide +kernel
theorem dX11_here_32 : decode cX11_here 32 = .ok (.putfield 158, 3) := by decide +kernel
theorem dX11_here_35 : decode cX11_here 35 = .ok (.goto (-35), 3) := by decide +kernel
theorem dX11_here_38 : decode cX11_here 38 = .ok (.aload_n 0, 1) := by decide +kernel
theorem dX11_here_39 : decode cX11_here 39 = .ok (.getfield 158, 3) := by decide +kernel
theorem dX11_here_42 : decode cX11_here 42 = .ok (.aload_n 0, 1) := by decide +kernel
theorem dX11_here_43 : decode cX11_here 43 = .ok (.getfield 153, 3) := by decide +kernel
theorem dX11_here_46 : decode cX11_here 46 = .ok (.if_icmp .ge 15, 3) := by decide +kernel
theorem dX11_here_49 : decode cX11_here 49 = .ok (.aload_n 0, 1) := by decide +kernel
theorem dX11_here_50 : decode cX11_here 50 = .ok (.getfield 37, 3) := by decide +kernel
theorem dX11_here_53 : decode cX11_here 53 = .ok (.aload_n 0, 1) := by decide +kernel
theorem dX11_here_54 : decode cX11_here 54 = .ok (.getfield 158, 3) := by decide +kernel
theorem dX11_here_57 : decode cX11_here 57 = .ok (.iaload, 1) := by decide +kernel
theorem dX11_here_58 : decode cX11_here 58 = .ok (.goto 4, 3) := by decide +kernel
theorem dX11_here_61 : decode cX11_here 61 = .ok (.iconst (-1), 1) := by decide +kernel
theorem dX11_here_62 : decode cX11_here 62 = .ok (.ireturn, 1) := by decide +kernel
theorem dX11_fails_0 : decode cX11_fails 0 = .ok (.aload_n 0, 1) := by decide +kernel
theorem dX11_fails_1 : decode cX11_fails 1 = .ok (.iload_n 2, 1) := by decide +kernel
theorem dX11_fails_2 : decode cX11_fails 2 = .ok (.putfield 40, 3) := by decide +kernel
theorem dX11_fails_5 : decode cX11_fails 5 = .ok (.iload_n 1, 1) := by decide +kernel
theorem dX11_fails_6 : decode cX11_fails 6 = .ok (.ireturn, 1) := by decide +kernel
theorem dX11_readWord_0 : decode cX11_readWord 0 = .ok (.aload_n 0, 1) := by decide +kernel
theorem dX11_readWord_1 : decode cX11_readWord 1 = .ok (.invokevirtual 161, 3) := by decide +kernel
theorem dX11_readWord_4 : decode cX11_readWord 4 = .ok (.istore_n 1, 1) := by decide +kernel
theorem dX11_readWord_5 : decode cX11_readWord 5 = .ok (.aload_n 0, 1) := by decide +kernel
theorem dX11_readWord_6 : decode cX11_readWord 6 = .ok (.lconst 0, 1) := by decide +kernel
theorem dX11_readWord_7 : decode cX11_readWord 7 = .ok (.putfield 165, 3) := by decide +kernel
theorem dX11_readWord_10 : decode cX11_readWord 10 = .ok (.aload_n 0, 1) := by decide +kernel
theorem dX11_readWord_11 : decode cX11_readWord 11 = .ok (.aload_n 0, 1) := by decide +kernel
theorem dX11_readWord_12 : decode cX11_readWord 12 = .ok (.getfield 158, 3) := by decide +kernel
theorem dX11_readWord_15 : decode cX11_readWord 15 = .ok (.putfield 169, 3) := by decide +kernel
theorem dX11_readWord_18 : decode cX11_readWord 18 = .ok (.aload_n 0, 1) := by decide +kernel
theorem dX11_readWord_19 : decode cX11_readWord 19 = .ok (.getfield 169, 3) := by decide +kernel
theorem dX11_readWord_22 : decode cX11_readWord 22 = .ok (.aload_n 0, 1) := by decide +kernel
theorem dX11_readWord_23 : decode cX11_readWord 23 = .ok (.getfield 153, 3) := by decide +kernel
theorem dX11_readWord_26 : decode cX11_readWord 26 = .ok (.if_icmp .ge 82, 3) := by decide +kernel
theorem dX11_readWord_29 : decode cX11_readWord 29 = .ok (.aload_n 0, 1) := by decide +kernel
theorem dX11_readWord_30 : decode cX11_readWord 30 = .ok (.getfield 37, 3) := by decide +kernel
theorem dX11_readWord_33 : decode cX11_readWord 33 = .ok (.aload_n 0, 1) := by decide +kernel
theorem dX11_readWord_34 : decode cX11_readWord 34 = .ok (.getfield 169, 3) := by decide +kernel
theorem dX11_readWord_37 : decode cX11_readWord 37 = .ok (.iaload, 1) := by decide +kernel
theorem dX11_readWord_38 : decode cX11_readWord 38 = .ok (.i2l, 1) := by decide +kernel
theorem dX11_readWord_39 : decode cX11_readWord 39 = .ok (.ldc2_w 172, 3) := by decide +kernel
theorem dX11_readWord_42 : decode cX11_readWord 42 = .ok (.ldc2_w 174, 3) := by decide +kernel
theorem dX11_readWord_45 : decode cX11_readWord 45 = .ok (.invokestatic 144, 3) := by decide +kernel
theorem dX11_readWord_48 : decode cX11_readWord 48 = .ok (.ifCond .eq 60, 3) := by decide +kernel
theorem dX11_readWord_51 : decode cX11_readWord 51 = .ok (.aload_n 0, 1) := by decide +kernel
theorem dX11_readWord_52 : decode cX11_readWord 52 = .ok (.aload_n 0, 1) := by decide +kernel
theorem dX11_readWord_53 : decode cX11_readWord 53 = .ok (.getfield 165, 3) := by decide +kernel
theorem dX11_readWord_56 : decode cX11_readWord 56 = .ok (.ldc2_w 176, 3) := by decide +kernel
theorem dX11_readWord_59 : decode cX11_readWord 59 = .ok (.lcmp, 1) := by decide +kernel
theorem dX11_readWord_60 : decode cX11_readWord 60 = .ok (.ifCond .le 9, 3) := by decide +kernel
theorem dX11_readWord_63 : decode cX11_readWord 63 = .ok (.ldc2_w 178, 3) := by decide +kernel
theorem dX11_readWord_66 : decode cX11_readWord 66 = .ok (.goto 26, 3) := by decide +kernel
theorem dX11_readWord_69 : decode cX11_readWord 69 = .ok (.ldc2_w 180, 3) := by decide +kernel
theorem dX11_readWord_72 : decode cX11_readWord 72 = .ok (.aload_n 0, 1) := by decide +kernel
theorem dX11_readWord_73 : decode cX11_readWord 73 = .ok (.getfield 165, 3) := by decide +kernel
theorem dX11_readWord_76 : decode cX11_readWord 76 = .ok (.lmul, 1) := by decide +kernel
theorem dX11_readWord_77 : decode cX11_readWord 77 = .ok (.aload_n 0, 1) := by decide +kernel
theorem dX11_readWord_78 : decode cX11_readWord 78 = .ok (.getfield 37, 3) := by decide +kernel
theorem dX11_readWord_81 : decode cX11_readWord 81 = .ok (.aload_n 0, 1) := by decide +kernel
theorem dX11_readWord_82 : decode cX11_readWord 82 = .ok (.getfield 169, 3) := by decide +kernel
theorem dX11_readWord_85 : decode cX11_readWord 85 = .ok (.iaload, 1) := by decide +kernel
theorem dX11_readWord_86 : decode cX11_readWord 86 = .ok (.i2l, 1) := by decide +kernel
theorem dX11_readWord_87 : decode cX11_readWord 87 = .ok (.ladd, 1) := by decide +kernel
theorem dX11_readWord_88 : decode cX11_readWord 88 = .ok (.ldc2_w 182, 3) := by decide +kernel
theorem dX11_readWord_91 : decode cX11_readWord 91 = .ok (.lsub, 1) := by decide +kernel
theorem dX11_readWord_92 : decode cX11_readWord 92 = .ok (.putfield 165, 3) := by decide +kernel
theorem dX11_readWord_95 : decode cX11_readWord 95 = .ok (.aload_n 0, 1) := by decide +kernel
theorem dX11_readWord_96 : decode cX11_readWord 96 = .ok (.dup, 1) := by decide +kernel
theorem dX11_readWord_97 : decode cX11_readWord 97 = .ok (.getfield 169, 3) := by decide +kernel
theorem dX11_readWord_100 : decode cX11_readWord 100 = .ok (.iconst 1, 1) := by decide +kernel
theorem dX11_readWord_101 : decode cX11_readWord 101 = .ok (.iadd, 1) := by decide +kernel
theorem dX11_readWord_102 : decode cX11_readWord 102 = .ok (.putfield 169, 3) := by decide +kernel
theorem dX11_readWord_105 : decode cX11_readWord 105 = .ok (.goto (-87), 3) := by decide +kernel
theorem dX11_readWord_108 : decode cX11_readWord 108 = .ok (.return_, 1) := by decide +kernel
theorem dX11_code4_0 : decode cX11_code4 0 = .ok (.ldc2_w 180, 3) := by decide +kernel
theorem dX11_code4_3 : decode cX11_code4 3 = .ok (.ldc2_w 180, 3) := by decide +kernel
theorem dX11_code4_6 : decode cX11_code4 6 = .ok (.ldc2_w 180, 3) := by decide +kernel
theorem dX11_code4_9 : decode cX11_code4 9 = .ok (.iload_n 0, 1) := by decide +kernel
theorem dX11_code4_10 : decode cX11_code4 10 = .ok (.i2l, 1) := by decide +kernel
theorem dX11_code4_11 : decode cX11_code4 11 = .ok (.ldc2_w 182, 3) := by decide +kernel
theorem dX11_code4_14 : decode cX11_code4 14 = .ok (.lsub, 1) := by decide +kernel
theorem dX11_code4_15 : decode cX11_code4 15 = .ok (.lmul, 1) := by decide +kernel
theorem dX11_code4_16 : decode cX11_code4 16 = .ok (.iload_n 1, 1) := by decide +kernel
theorem dX11_code4_17 : decode cX11_code4 17 = .ok (.i2l, 1) := by decide +kernel
theorem dX11_code4_18 : decode cX11_code4 18 = .ok (.ladd, 1) := by decide +kernel
theorem dX11_code4_19 : decode cX11_code4 19 = .ok (.ldc2_w 182, 3) := by decide +kernel
theorem dX11_code4_22 : decode cX11_code4 22 = .ok (.lsub, 1) := by decide +kernel
theorem dX11_code4_23 : decode cX11_code4 23 = .ok (.lmul, 1) := by decide +kernel
theorem dX11_code4_24 : decode cX11_code4 24 = .ok (.iload_n 2, 1) := by decide +kernel
theorem dX11_code4_25 : decode cX11_code4 25 = .ok (.i2l, 1) := by decide +kernel
theorem dX11_code4_26 : decode cX11_code4 26 = .ok (.ladd, 1) := by decide +kernel
theorem dX11_code4_27 : decode cX11_code4 27 = .ok (.ldc2_w 182, 3) := by decide +kernel
theorem dX11_code4_30 : decode cX11_code4 30 = .ok (.lsub, 1) := by decide +kernel
theorem dX11_code4_31 : decode cX11_code4 31 = .ok (.lmul, 1) := by decide +kernel
theorem dX11_code4_32 : decode cX11_code4 32 = .ok (.iload_n 3, 1) := by decide +kernel
theorem dX11_code4_33 : decode cX11_code4 33 = .ok (.i2l, 1) := by decide +kernel
theorem dX11_code4_34 : decode cX11_code4 34 = .ok (.ladd, 1) := by decide +kernel
theorem dX11_code4_35 : decode cX11_code4 35 = .ok (.ldc2_w 182, 3) := by decide +kernel
theorem dX11_code4_38 : decode cX11_code4 38 = .ok (.lsub, 1) := by decide +kernel
theorem dX11_code4_39 : decode cX11_code4 39 = .ok (.lreturn, 1) := by decide +kernel
theorem dX11_longer_0 : decode cX11_longer 0 = .ok (.ldc2_w 180, 3) := by decide +kernel
theorem dX11_longer_3 : decode cX11_longer 3 = .ok (.lload_n 0, 1) := by decide +kernel
theorem dX11_longer_4 : decode cX11_longer 4 = .ok (.lmul, 1) := by decide +kernel
theorem dX11_longer_5 : decode cX11_longer 5 = .ok (.iload_n 2, 1) := by decide +kernel
theorem dX11_longer_6 : decode cX11_longer 6 = .ok (.i2l, 1) := by decide +kernel
theorem dX11_longer_7 : decode cX11_longer 7 = .ok (.ladd, 1) := by decide +kernel
theorem dX11_longer_8 : decode cX11_longer 8 = .ok (.ldc2_w 182, 3) := by decide +kernel
theorem dX11_longer_11 : decode cX11_longer 11 = .ok (.lsub, 1) := by decide +kernel
theorem dX11_longer_12 : decode cX11_longer 12 = .ok (.lreturn, 1) := by decide +kernel
theorem dX11_takeNumber_0 : decode cX11_takeNumber 0 = .ok (.aload_n 0, 1) := by decide +kernel
theorem dX11_takeNumber_1 : decode cX11_takeNumber 1 = .ok (.invokevirtual 161, 3) := by decide +kernel
theorem dX11_takeNumber_4 : decode cX11_takeNumber 4 = .ok (.istore_n 3, 1) := by decide +kernel
theorem dX11_takeNumber_5 : decode cX11_takeNumber 5 = .ok (.iload_n 3, 1) := by decide +kernel
theorem dX11_takeNumber_6 : decode cX11_takeNumber 6 = .ok (.i2l, 1) := by decide +kernel
theorem dX11_takeNumber_7 : decode cX11_takeNumber 7 = .ok (.ldc2_w 184, 3) := by decide +kernel
theorem dX11_takeNumber_10 : decode cX11_takeNumber 10 = .ok (.ldc2_w 186, 3) := by decide +kernel
theorem dX11_takeNumber_13 : decode cX11_takeNumber 13 = .ok (.invokestatic 144, 3) := by decide +kernel
theorem dX11_takeNumber_16 : decode cX11_takeNumber 16 = .ok (.ifCond .ne 13, 3) := by decide +kernel
theorem dX11_takeNumber_19 : decode cX11_takeNumber 19 = .ok (.aload_n 0, 1) := by decide +kernel
theorem dX11_takeNumber_20 : decode cX11_takeNumber 20 = .ok (.iconst 1, 1) := by decide +kernel
theorem dX11_takeNumber_21 : decode cX11_takeNumber 21 = .ok (.aload_n 0, 1) := by decide +kernel
theorem dX11_takeNumber_22 : decode cX11_takeNumber 22 = .ok (.getfield 158, 3) := by decide +kernel
theorem dX11_takeNumber_25 : decode cX11_takeNumber 25 = .ok (.invokevirtual 188, 3) := by decide +kernel
theorem dX11_takeNumber_28 : decode cX11_takeNumber 28 = .ok (.ireturn, 1) := by decide +kernel
theorem dX11_takeNumber_29 : decode cX11_takeNumber 29 = .ok (.aload_n 0, 1) := by decide +kernel
theorem dX11_takeNumber_30 : decode cX11_takeNumber 30 = .ok (.aload_n 0, 1) := by decide +kernel
theorem dX11_takeNumber_31 : decode cX11_takeNumber 31 = .ok (.getfield 158, 3) := by decide +kernel
theorem dX11_takeNumber_34 : decode cX11_takeNumber 34 = .ok (.putfield 192, 3) := by decide +kernel
theorem dX11_takeNumber_37 : decode cX11_takeNumber 37 = .ok (.aload_n 0, 1) := by decide +kernel
theorem dX11_takeNumber_38 : decode cX11_takeNumber 38 = .ok (.iconst 0, 1) := by decide +kernel
theorem dX11_takeNumber_39 : decode cX11_takeNumber 39 = .ok (.putfield 195, 3) := by decide +kernel
theorem dX11_takeNumber_42 : decode cX11_takeNumber 42 = .ok (.aload_n 0, 1) := by decide +kernel
theorem dX11_takeNumber_43 : decode cX11_takeNumber 43 = .ok (.getfield 158, 3) := by decide +kernel
theorem dX11_takeNumber_46 : decode cX11_takeNumber 46 = .ok (.aload_n 0, 1) := by decide +kernel
theorem dX11_takeNumber_47 : decode cX11_takeNumber 47 = .ok (.getfield 153, 3) := by decide +kernel
theorem dX11_takeNumber_50 : decode cX11_takeNumber 50 = .ok (.if_icmp .ge 79, 3) := by decide +kernel
theorem dX11_takeNumber_53 : decode cX11_takeNumber 53 = .ok (.aload_n 0, 1) := by decide +kernel
theorem dX11_takeNumber_54 : decode cX11_takeNumber 54 = .ok (.getfield 37, 3) := by decide +kernel
theorem dX11_takeNumber_57 : decode cX11_takeNumber 57 = .ok (.aload_n 0, 1) := by decide +kernel
theorem dX11_takeNumber_58 : decode cX11_takeNumber 58 = .ok (.getfield 158, 3) := by decide +kernel
theorem dX11_takeNumber_61 : decode cX11_takeNumber 61 = .ok (.iaload, 1) := by decide +kernel
theorem dX11_takeNumber_62 : decode cX11_takeNumber 62 = .ok (.i2l, 1) := by decide +kernel
theorem dX11_takeNumber_63 : decode cX11_takeNumber 63 = .ok (.ldc2_w 184, 3) := by decide +kernel
theorem dX11_takeNumber_66 : decode cX11_takeNumber 66 = .ok (.ldc2_w 186, 3) := by decide +kernel
theorem dX11_takeNumber_69 : decode cX11_takeNumber 69 = .ok (.invokestatic 144, 3) := by decide +kernel
theorem dX11_takeNumber_72 : decode cX11_takeNumber 72 = .ok (.ifCond .eq 57, 3) := by decide +kernel
theorem dX11_takeNumber_75 : decode cX11_takeNumber 75 = .ok (.aload_n 0, 1) := by decide +kernel
theorem dX11_takeNumber_76 : decode cX11_takeNumber 76 = .ok (.aload_n 0, 1) := by decide +kernel
theorem dX11_takeNumber_77 : decode cX11_takeNumber 77 = .ok (.getfield 195, 3) := by decide +kernel
theorem dX11_takeNumber_80 : decode cX11_takeNumber 80 = .ok (.sipush 1000, 3) := by decide +kernel
theorem dX11_takeNumber_83 : decode cX11_takeNumber 83 = .ok (.if_icmp .le 10, 3) := by decide +kernel
theorem dX11_takeNumber_86 : decode cX11_takeNumber 86 = .ok (.aload_n 0, 1) := by decide +kernel
theorem dX11_takeNumber_87 : decode cX11_takeNumber 87 = .ok (.getfield 195, 3) := by decide +kernel
theorem dX11_takeNumber_90 : decode cX11_takeNumber 90 = .ok (.goto 23, 3) := by decide +kernel
theorem dX11_takeNumber_93 : decode cX11_takeNumber 93 = .ok (.bipush 10, 2) := by decide +kernel
theorem dX11_takeNumber_95 : decode cX11_takeNumber 95 = .ok (.aload_n 0, 1) := by decide +kernel
theorem dX11_takeNumber_96 : decode cX11_takeNumber 96 = .ok (.getfield 195, 3) := by decide +kernel
theorem dX11_takeNumber_99 : decode cX11_takeNumber 99 = .ok (.imul, 1) := by decide +kernel
theorem dX11_takeNumber_100 : decode cX11_takeNumber 100 = .ok (.aload_n 0, 1) := by decide +kernel
theorem dX11_takeNumber_101 : decode cX11_takeNumber 101 = .ok (.getfield 37, 3) := by decide +kernel
theorem dX11_takeNumber_104 : decode cX11_takeNumber 104 = .ok (.aload_n 0, 1) := by decide +kernel
theorem dX11_takeNumber_105 : decode cX11_takeNumber 105 = .ok (.getfield 158, 3) := by decide +kernel
theorem dX11_takeNumber_108 : decode cX11_takeNumber 108 = .ok (.iaload, 1) := by decide +kernel
theorem dX11_takeNumber_109 : decode cX11_takeNumber 109 = .ok (.iadd, 1) := by decide +kernel
theorem dX11_takeNumber_110 : decode cX11_takeNumber 110 = .ok (.bipush 48, 2) := by decide +kernel
theorem dX11_takeNumber_112 : decode cX11_takeNumber 112 = .ok (.isub, 1) := by decide +kernel
theorem dX11_takeNumber_113 : decode cX11_takeNumber 113 = .ok (.putfield 195, 3) := by decide +kernel
theorem dX11_takeNumber_116 : decode cX11_takeNumber 116 = .ok (.aload_n 0, 1) := by decide +kernel
theorem dX11_takeNumber_117 : decode cX11_takeNumber 117 = .ok (.dup, 1) := by decide +kernel
theorem dX11_takeNumber_118 : decode cX11_takeNumber 118 = .ok (.getfield 158, 3) := by decide +kernel
theorem dX11_takeNumber_121 : decode cX11_takeNumber 121 = .ok (.iconst 1, 1) := by decide +kernel
theorem dX11_takeNumber_122 : decode cX11_takeNumber 122 = .ok (.iadd, 1) := by decide +kernel
theorem dX11_takeNumber_123 : decode cX11_takeNumber 123 = .ok (.putfield 158, 3) := by decide +kernel
theorem dX11_takeNumber_126 : decode cX11_takeNumber 126 = .ok (.goto (-84), 3) := by decide +kernel
theorem dX11_takeNumber_129 : decode cX11_takeNumber 129 = .ok (.aload_n 0, 1) := by decide +kernel
theorem dX11_takeNumber_130 : decode cX11_takeNumber 130 = .ok (.getfield 158, 3) := by decide +kernel
theorem dX11_takeNumber_133 : decode cX11_takeNumber 133 = .ok (.aload_n 0, 1) := by decide +kernel
theorem dX11_takeNumber_134 : decode cX11_takeNumber 134 = .ok (.getfield 192, 3) := by decide +kernel
theorem dX11_takeNumber_137 : decode cX11_takeNumber 137 = .ok (.isub, 1) := by decide +kernel
theorem dX11_takeNumber_138 : decode cX11_takeNumber 138 = .ok (.iconst 2, 1) := by decide +kernel
theorem dX11_takeNumber_139 : decode cX11_takeNumber 139 = .ok (.if_icmp .gt 18, 3) := by decide +kernel
theorem dX11_takeNumber_142 : decode cX11_takeNumber 142 = .ok (.aload_n 0, 1) := by decide +kernel
theorem dX11_takeNumber_143 : decode cX11_takeNumber 143 = .ok (.getfield 195, 3) := by decide +kernel
theorem dX11_takeNumber_146 : decode cX11_takeNumber 146 = .ok (.i2l, 1) := by decide +kernel
theorem dX11_takeNumber_147 : decode cX11_takeNumber 147 = .ok (.iload_n 1, 1) := by decide +kernel
theorem dX11_takeNumber_148 : decode cX11_takeNumber 148 = .ok (.i2l, 1) := by decide +kernel
theorem dX11_takeNumber_149 : decode cX11_takeNumber 149 = .ok (.iload_n 2, 1) := by decide +kernel
theorem dX11_takeNumber_150 : decode cX11_takeNumber 150 = .ok (.i2l, 1) := by decide +kernel
theorem dX11_takeNumber_151 : decode cX11_takeNumber 151 = .ok (.invokestatic 144, 3) := by decide +kernel
theorem dX11_takeNumber_154 : decode cX11_takeNumber 154 = .ok (.ifCond .ne 15, 3) := by decide +kernel
theorem dX11_takeNumber_157 : decode cX11_takeNumber 157 = .ok (.aload_n 0, 1) := by decide +kernel
theorem dX11_takeNumber_158 : decode cX11_takeNumber 158 = .ok (.iconst 2, 1) := by decide +kernel
theorem dX11_takeNumber_159 : decode cX11_takeNumber 159 = .ok (.aload_n 0, 1) := by decide +kernel
theorem dX11_takeNumber_160 : decode cX11_takeNumber 160 = .ok (.getfield 192, 3) := by decide +kernel
theorem dX11_takeNumber_163 : decode cX11_takeNumber 163 = .ok (.invokevirtual 188, 3) := by decide +kernel
theorem dX11_takeNumber_166 : decode cX11_takeNumber 166 = .ok (.goto 4, 3) := by decide +kernel
theorem dX11_takeNumber_169 : decode cX11_takeNumber 169 = .ok (.iconst 0, 1) := by decide +kernel
theorem dX11_takeNumber_170 : decode cX11_takeNumber 170 = .ok (.ireturn, 1) := by decide +kernel
theorem dX11_takeTwo_0 : decode cX11_takeTwo 0 = .ok (.aload_n 0, 1) := by decide +kernel
theorem dX11_takeTwo_1 : decode cX11_takeTwo 1 = .ok (.iconst 0, 1) := by decide +kernel
theorem dX11_takeTwo_2 : decode cX11_takeTwo 2 = .ok (.aload_n 0, 1) := by decide +kernel
theorem dX11_takeTwo_3 : decode cX11_takeTwo 3 = .ok (.getfield 198, 3) := by decide +kernel
theorem dX11_takeTwo_6 : decode cX11_takeTwo 6 = .ok (.iconst 1, 1) := by decide +kernel
theorem dX11_takeTwo_7 : decode cX11_takeTwo 7 = .ok (.isub, 1) := by decide +kernel
theorem dX11_takeTwo_8 : decode cX11_takeTwo 8 = .ok (.invokevirtual 201, 3) := by decide +kernel
theorem dX11_takeTwo_11 : decode cX11_takeTwo 11 = .ok (.istore_n 2, 1) := by decide +kernel
theorem dX11_takeTwo_12 : decode cX11_takeTwo 12 = .ok (.aload_n 0, 1) := by decide +kernel
theorem dX11_takeTwo_13 : decode cX11_takeTwo 13 = .ok (.aload_n 0, 1) := by decide +kernel
theorem dX11_takeTwo_14 : decode cX11_takeTwo 14 = .ok (.getfield 195, 3) := by decide +kernel
theorem dX11_takeTwo_17 : decode cX11_takeTwo 17 = .ok (.putfield 204, 3) := by decide +kernel
theorem dX11_takeTwo_20 : decode cX11_takeTwo 20 = .ok (.iload_n 2, 1) := by decide +kernel
theorem dX11_takeTwo_21 : decode cX11_takeTwo 21 = .ok (.ifCond .le 7, 3) := by decide +kernel
theorem dX11_takeTwo_24 : decode cX11_takeTwo 24 = .ok (.iload_n 2, 1) := by decide +kernel
theorem dX11_takeTwo_25 : decode cX11_takeTwo 25 = .ok (.goto 14, 3) := by decide +kernel
theorem dX11_takeTwo_28 : decode cX11_takeTwo 28 = .ok (.aload_n 0, 1) := by decide +kernel
theorem dX11_takeTwo_29 : decode cX11_takeTwo 29 = .ok (.iconst 0, 1) := by decide +kernel
theorem dX11_takeTwo_30 : decode cX11_takeTwo 30 = .ok (.aload_n 0, 1) := by decide +kernel
theorem dX11_takeTwo_31 : decode cX11_takeTwo 31 = .ok (.getfield 198, 3) := by decide +kernel
theorem dX11_takeTwo_34 : decode cX11_takeTwo 34 = .ok (.iconst 1, 1) := by decide +kernel
theorem dX11_takeTwo_35 : decode cX11_takeTwo 35 = .ok (.isub, 1) := by decide +kernel
theorem dX11_takeTwo_36 : decode cX11_takeTwo 36 = .ok (.invokevirtual 201, 3) := by decide +kernel
theorem dX11_takeTwo_39 : decode cX11_takeTwo 39 = .ok (.istore_n 2, 1) := by decide +kernel
theorem dX11_takeTwo_40 : decode cX11_takeTwo 40 = .ok (.aload_n 0, 1) := by decide +kernel
theorem dX11_takeTwo_41 : decode cX11_takeTwo 41 = .ok (.aload_n 0, 1) := by decide +kernel
theorem dX11_takeTwo_42 : decode cX11_takeTwo 42 = .ok (.getfield 195, 3) := by decide +kernel
theorem dX11_takeTwo_45 : decode cX11_takeTwo 45 = .ok (.putfield 207, 3) := by decide +kernel
theorem dX11_takeTwo_48 : decode cX11_takeTwo 48 = .ok (.iload_n 2, 1) := by decide +kernel
theorem dX11_takeTwo_49 : decode cX11_takeTwo 49 = .ok (.ifCond .le 5, 3) := by decide +kernel
theorem dX11_takeTwo_52 : decode cX11_takeTwo 52 = .ok (.iload_n 2, 1) := by decide +kernel
theorem dX11_takeTwo_53 : decode cX11_takeTwo 53 = .ok (.ireturn, 1) := by decide +kernel
theorem dX11_takeTwo_54 : decode cX11_takeTwo 54 = .ok (.aload_n 0, 1) := by decide +kernel
theorem dX11_takeTwo_55 : decode cX11_takeTwo 55 = .ok (.getfield 204, 3) := by decide +kernel
theorem dX11_takeTwo_58 : decode cX11_takeTwo 58 = .ok (.aload_n 0, 1) := by decide +kernel
theorem dX11_takeTwo_59 : decode cX11_takeTwo 59 = .ok (.getfield 207, 3) := by decide +kernel
theorem dX11_takeTwo_62 : decode cX11_takeTwo 62 = .ok (.if_icmp .ne 7, 3) := by decide +kernel
theorem dX11_takeTwo_65 : decode cX11_takeTwo 65 = .ok (.iconst 1, 1) := by decide +kernel
theorem dX11_takeTwo_66 : decode cX11_takeTwo 66 = .ok (.goto 4, 3) := by decide +kernel
theorem dX11_takeTwo_69 : decode cX11_takeTwo 69 = .ok (.iconst 0, 1) := by decide +kernel
theorem dX11_takeTwo_70 : decode cX11_takeTwo 70 = .ok (.istore_n 3, 1) := by decide +kernel
theorem dX11_takeTwo_71 : decode cX11_takeTwo 71 = .ok (.iconst 0, 1) := by decide +kernel
theorem dX11_takeTwo_72 : decode cX11_takeTwo 72 = .ok (.istore 4, 2) := by decide +kernel
theorem dX11_takeTwo_74 : decode cX11_takeTwo 74 = .ok (.iload 4, 2) := by decide +kernel
theorem dX11_takeTwo_76 : decode cX11_takeTwo 76 = .ok (.aload_n 0, 1) := by decide +kernel
theorem dX11_takeTwo_77 : decode cX11_takeTwo 77 = .ok (.getfield 210, 3) := by decide +kernel
theorem dX11_takeTwo_80 : decode cX11_takeTwo 80 = .ok (.if_icmp .ge 52, 3) := by decide +kernel
theorem dX11_takeTwo_83 : decode cX11_takeTwo 83 = .ok (.iload_n 3, 1) := by decide +kernel
theorem dX11_takeTwo_84 : decode cX11_takeTwo 84 = .ok (.ifCond .ne 36, 3) := by decide +kernel
theorem dX11_takeTwo_87 : decode cX11_takeTwo 87 = .ok (.iload_n 1, 1) := by decide +kernel
theorem dX11_takeTwo_88 : decode cX11_takeTwo 88 = .ok (.iconst 1, 1) := by decide +kernel
theorem dX11_takeTwo_89 : decode cX11_takeTwo 89 = .ok (.if_icmp .ne 35, 3) := by decide +kernel
theorem dX11_takeTwo_92 : decode cX11_takeTwo 92 = .ok (.aload_n 0, 1) := by decide +kernel
theorem dX11_takeTwo_93 : decode cX11_takeTwo 93 = .ok (.getfield 47, 3) := by decide +kernel
theorem dX11_takeTwo_96 : decode cX11_takeTwo 96 = .ok (.iload 4, 2) := by decide +kernel
theorem dX11_takeTwo_98 : decode cX11_takeTwo 98 = .ok (.iaload, 1) := by decide +kernel
theorem dX11_takeTwo_99 : decode cX11_takeTwo 99 = .ok (.aload_n 0, 1) := by decide +kernel
theorem dX11_takeTwo_100 : decode cX11_takeTwo 100 = .ok (.getfield 204, 3) := by decide +kernel
theorem dX11_takeTwo_103 : decode cX11_takeTwo 103 = .ok (.if_icmp .ne 21, 3) := by decide +kernel
theorem dX11_takeTwo_106 : decode cX11_takeTwo 106 = .ok (.aload_n 0, 1) := by decide +kernel
theorem dX11_takeTwo_107 : decode cX11_takeTwo 107 = .ok (.getfield 50, 3) := by decide +kernel
theorem dX11_takeTwo_110 : decode cX11_takeTwo 110 = .ok (.iload 4, 2) := by decide +kernel
theorem dX11_takeTwo_112 : decode cX11_takeTwo 112 = .ok (.iaload, 1) := by decide +kernel
theorem dX11_takeTwo_113 : decode cX11_takeTwo 113 = .ok (.aload_n 0, 1) := by decide +kernel
theorem dX11_takeTwo_114 : decode cX11_takeTwo 114 = .ok (.getfield 207, 3) := by decide +kernel
theorem dX11_takeTwo_117 : decode cX11_takeTwo 117 = .ok (.if_icmp .ne 7, 3) := by decide +kernel
theorem dX11_takeTwo_120 : decode cX11_takeTwo 120 = .ok (.iconst 1, 1) := by decide +kernel
theorem dX11_takeTwo_121 : decode cX11_takeTwo 121 = .ok (.goto 4, 3) := by decide +kernel
theorem dX11_takeTwo_124 : decode cX11_takeTwo 124 = .ok (.iconst 0, 1) := by decide +kernel
theorem dX11_takeTwo_125 : decode cX11_takeTwo 125 = .ok (.istore_n 3, 1) := by decide +kernel
theorem dX11_takeTwo_126 : decode cX11_takeTwo 126 = .ok (.iinc 4 1, 3) := by decide +kernel
theorem dX11_takeTwo_129 : decode cX11_takeTwo 129 = .ok (.goto (-55), 3) := by decide +kernel
theorem dX11_takeTwo_132 : decode cX11_takeTwo 132 = .ok (.iconst 0, 1) := by decide +kernel
theorem dX11_takeTwo_133 : decode cX11_takeTwo 133 = .ok (.istore 4, 2) := by decide +kernel
theorem dX11_takeTwo_135 : decode cX11_takeTwo 135 = .ok (.iload 4, 2) := by decide +kernel
theorem dX11_takeTwo_137 : decode cX11_takeTwo 137 = .ok (.aload_n 0, 1) := by decide +kernel
theorem dX11_takeTwo_138 : decode cX11_takeTwo 138 = .ok (.getfield 213, 3) := by decide +kernel
theorem dX11_takeTwo_141 : decode cX11_takeTwo 141 = .ok (.if_icmp .ge 68, 3) := by decide +kernel
theorem dX11_takeTwo_144 : decode cX11_takeTwo 144 = .ok (.iload_n 3, 1) := by decide +kernel
theorem dX11_takeTwo_145 : decode cX11_takeTwo 145 = .ok (.ifCond .ne 52, 3) := by decide +kernel
theorem dX11_takeTwo_148 : decode cX11_takeTwo 148 = .ok (.iload_n 1, 1) := by decide +kernel
theorem dX11_takeTwo_149 : decode cX11_takeTwo 149 = .ok (.iconst 2, 1) := by decide +kernel
theorem dX11_takeTwo_150 : decode cX11_takeTwo 150 = .ok (.if_icmp .ne 51, 3) := by decide +kernel
theorem dX11_takeTwo_153 : decode cX11_takeTwo 153 = .ok (.aload_n 0, 1) := by decide +kernel
theorem dX11_takeTwo_154 : decode cX11_takeTwo 154 = .ok (.getfield 53, 3) := by decide +kernel
theorem dX11_takeTwo_157 : decode cX11_takeTwo 157 = .ok (.iload 4, 2) := by decide +kernel
theorem dX11_takeTwo_159 : decode cX11_takeTwo 159 = .ok (.iaload, 1) := by decide +kernel
theorem dX11_takeTwo_160 : decode cX11_takeTwo 160 = .ok (.bipush 100, 2) := by decide +kernel
theorem dX11_takeTwo_162 : decode cX11_takeTwo 162 = .ok (.aload_n 0, 1) := by decide +kernel
theorem dX11_takeTwo_163 : decode cX11_takeTwo 163 = .ok (.getfield 204, 3) := by decide +kernel
theorem dX11_takeTwo_166 : decode cX11_takeTwo 166 = .ok (.imul, 1) := by decide +kernel
theorem dX11_takeTwo_167 : decode cX11_takeTwo 167 = .ok (.aload_n 0, 1) := by decide +kernel
theorem dX11_takeTwo_168 : decode cX11_takeTwo 168 = .ok (.getfield 207, 3) := by decide +kernel
theorem dX11_takeTwo_171 : decode cX11_takeTwo 171 = .ok (.iadd, 1) := by decide +kernel
theorem dX11_takeTwo_172 : decode cX11_takeTwo 172 = .ok (.if_icmp .eq 25, 3) := by decide +kernel
theorem dX11_takeTwo_175 : decode cX11_takeTwo 175 = .ok (.aload_n 0, 1) := by decide +kernel
theorem dX11_takeTwo_176 : decode cX11_takeTwo 176 = .ok (.getfield 53, 3) := by decide +kernel
theorem dX11_takeTwo_179 : decode cX11_takeTwo 179 = .ok (.iload 4, 2) := by decide +kernel
theorem dX11_takeTwo_181 : decode cX11_takeTwo 181 = .ok (.iaload, 1) := by decide +kernel
theorem dX11_takeTwo_182 : decode cX11_takeTwo 182 = .ok (.bipush 100, 2) := by decide +kernel
theorem dX11_takeTwo_184 : decode cX11_takeTwo 184 = .ok (.aload_n 0, 1) := by decide +kernel
theorem dX11_takeTwo_185 : decode cX11_takeTwo 185 = .ok (.getfield 207, 3) := by decide +kernel
theorem dX11_takeTwo_188 : decode cX11_takeTwo 188 = .ok (.imul, 1) := by decide +kernel
theorem dX11_takeTwo_189 : decode cX11_takeTwo 189 = .ok (.aload_n 0, 1) := by decide +kernel
theorem dX11_takeTwo_190 : decode cX11_takeTwo 190 = .ok (.getfield 204, 3) := by decide +kernel
theorem dX11_takeTwo_193 : decode cX11_takeTwo 193 = .ok (.iadd, 1) := by decide +kernel
theorem dX11_takeTwo_194 : decode cX11_takeTwo 194 = .ok (.if_icmp .ne 7, 3) := by decide +kernel
theorem dX11_takeTwo_197 : decode cX11_takeTwo 197 = .ok (.iconst 1, 1) := by decide +kernel
theorem dX11_takeTwo_198 : decode cX11_takeTwo 198 = .ok (.goto 4, 3) := by decide +kernel
theorem dX11_takeTwo_201 : decode cX11_takeTwo 201 = .ok (.iconst 0, 1) := by decide +kernel
theorem dX11_takeTwo_202 : decode cX11_takeTwo 202 = .ok (.istore_n 3, 1) := by decide +kernel
theorem dX11_takeTwo_203 : decode cX11_takeTwo 203 = .ok (.iinc 4 1, 3) := by decide +kernel
theorem dX11_takeTwo_206 : decode cX11_takeTwo 206 = .ok (.goto (-71), 3) := by decide +kernel
theorem dX11_takeTwo_209 : decode cX11_takeTwo 209 = .ok (.iload_n 3, 1) := by decide +kernel
theorem dX11_takeTwo_210 : decode cX11_takeTwo 210 = .ok (.ifCond .eq 15, 3) := by decide +kernel
theorem dX11_takeTwo_213 : decode cX11_takeTwo 213 = .ok (.aload_n 0, 1) := by decide +kernel
theorem dX11_takeTwo_214 : decode cX11_takeTwo 214 = .ok (.iconst 4, 1) := by decide +kernel
theorem dX11_takeTwo_215 : decode cX11_takeTwo 215 = .ok (.aload_n 0, 1) := by decide +kernel
theorem dX11_takeTwo_216 : decode cX11_takeTwo 216 = .ok (.getfield 192, 3) := by decide +kernel
theorem dX11_takeTwo_219 : decode cX11_takeTwo 219 = .ok (.invokevirtual 188, 3) := by decide +kernel
theorem dX11_takeTwo_222 : decode cX11_takeTwo 222 = .ok (.goto 4, 3) := by decide +kernel
theorem dX11_takeTwo_225 : decode cX11_takeTwo 225 = .ok (.iconst 0, 1) := by decide +kernel
theorem dX11_takeTwo_226 : decode cX11_takeTwo 226 = .ok (.ireturn, 1) := by decide +kernel
theorem dX11_takeClause_0 : decode cX11_takeClause 0 = .ok (.aload_n 0, 1) := by decide +kernel
theorem dX11_takeClause_1 : decode cX11_takeClause 1 = .ok (.invokevirtual 216, 3) := by decide +kernel
theorem dX11_takeClause_4 : decode cX11_takeClause 4 = .ok (.aload_n 0, 1) := by decide +kernel
theorem dX11_takeClause_5 : decode cX11_takeClause 5 = .ok (.getfield 165, 3) := by decide +kernel
theorem dX11_takeClause_8 : decode cX11_takeClause 8 = .ok (.bipush 112, 2) := by decide +kernel
theorem dX11_takeClause_10 : decode cX11_takeClause 10 = .ok (.bipush 101, 2) := by decide +kernel
theorem dX11_takeClause_12 : decode cX11_takeClause 12 = .ok (.bipush 114, 2) := by decide +kernel
theorem dX11_takeClause_14 : decode cX11_takeClause 14 = .ok (.bipush 115, 2) := by decide +kernel
theorem dX11_takeClause_16 : decode cX11_takeClause 16 = .ok (.invokestatic 219, 3) := by decide +kernel
theorem dX11_takeClause_19 : decode cX11_takeClause 19 = .ok (.bipush 111, 2) := by decide +kernel
theorem dX11_takeClause_21 : decode cX11_takeClause 21 = .ok (.invokestatic 223, 3) := by decide +kernel
theorem dX11_takeClause_24 : decode cX11_takeClause 24 = .ok (.bipush 110, 2) := by decide +kernel
theorem dX11_takeClause_26 : decode cX11_takeClause 26 = .ok (.invokestatic 223, 3) := by decide +kernel
theorem dX11_takeClause_29 : decode cX11_takeClause 29 = .ok (.lcmp, 1) := by decide +kernel
theorem dX11_takeClause_30 : decode cX11_takeClause 30 = .ok (.ifCond .ne 7, 3) := by decide +kernel
theorem dX11_takeClause_33 : decode cX11_takeClause 33 = .ok (.iconst 0, 1) := by decide +kernel
theorem dX11_takeClause_34 : decode cX11_takeClause 34 = .ok (.goto 98, 3) := by decide +kernel
theorem dX11_takeClause_37 : decode cX11_takeClause 37 = .ok (.aload_n 0, 1) := by decide +kernel
theorem dX11_takeClause_38 : decode cX11_takeClause 38 = .ok (.getfield 165, 3) := by decide +kernel
theorem dX11_takeClause_41 : decode cX11_takeClause 41 = .ok (.bipush 111, 2) := by decide +kernel
theorem dX11_takeClause_43 : decode cX11_takeClause 43 = .ok (.bipush 119, 2) := by decide +kernel
theorem dX11_takeClause_45 : decode cX11_takeClause 45 = .ok (.bipush 101, 2) := by decide +kernel
theorem dX11_takeClause_47 : decode cX11_takeClause 47 = .ok (.bipush 115, 2) := by decide +kernel
theorem dX11_takeClause_49 : decode cX11_takeClause 49 = .ok (.invokestatic 219, 3) := by decide +kernel
theorem dX11_takeClause_52 : decode cX11_takeClause 52 = .ok (.lcmp, 1) := by decide +kernel
theorem dX11_takeClause_53 : decode cX11_takeClause 53 = .ok (.ifCond .ne 7, 3) := by decide +kernel
theorem dX11_takeClause_56 : decode cX11_takeClause 56 = .ok (.iconst 1, 1) := by decide +kernel
theorem dX11_takeClause_57 : decode cX11_takeClause 57 = .ok (.goto 75, 3) := by decide +kernel
theorem dX11_takeClause_60 : decode cX11_takeClause 60 = .ok (.aload_n 0, 1) := by decide +kernel
theorem dX11_takeClause_61 : decode cX11_takeClause 61 = .ok (.getfield 165, 3) := by decide +kernel
theorem dX11_takeClause_64 : decode cX11_takeClause 64 = .ok (.bipush 103, 2) := by decide +kernel
theorem dX11_takeClause_66 : decode cX11_takeClause 66 = .ok (.bipush 114, 2) := by decide +kernel
theorem dX11_takeClause_68 : decode cX11_takeClause 68 = .ok (.bipush 117, 2) := by decide +kernel
theorem dX11_takeClause_70 : decode cX11_takeClause 70 = .ok (.bipush 100, 2) := by decide +kernel
theorem dX11_takeClause_72 : decode cX11_takeClause 72 = .ok (.invokestatic 219, 3) := by decide +kernel
theorem dX11_takeClause_75 : decode cX11_takeClause 75 = .ok (.bipush 103, 2) := by decide +kernel
theorem dX11_takeClause_77 : decode cX11_takeClause 77 = .ok (.invokestatic 223, 3) := by decide +kernel
theorem dX11_takeClause_80 : decode cX11_takeClause 80 = .ok (.bipush 101, 2) := by decide +kernel
theorem dX11_takeClause_82 : decode cX11_takeClause 82 = .ok (.invokestatic 223, 3) := by decide +kernel
theorem dX11_takeClause_85 : decode cX11_takeClause 85 = .ok (.lcmp, 1) := by decide +kernel
theorem dX11_takeClause_86 : decode cX11_takeClause 86 = .ok (.ifCond .ne 7, 3) := by decide +kernel
theorem dX11_takeClause_89 : decode cX11_takeClause 89 = .ok (.iconst 2, 1) := by decide +kernel
theorem dX11_takeClause_90 : decode cX11_takeClause 90 = .ok (.goto 42, 3) := by decide +kernel
theorem dX11_takeClause_93 : decode cX11_takeClause 93 = .ok (.aload_n 0, 1) := by decide +kernel
theorem dX11_takeClause_94 : decode cX11_takeClause 94 = .ok (.getfield 165, 3) := by decide +kernel
theorem dX11_takeClause_97 : decode cX11_takeClause 97 = .ok (.bipush 113, 2) := by decide +kernel
theorem dX11_takeClause_99 : decode cX11_takeClause 99 = .ok (.bipush 117, 2) := by decide +kernel
theorem dX11_takeClause_101 : decode cX11_takeClause 101 = .ok (.bipush 97, 2) := by decide +kernel
theorem dX11_takeClause_103 : decode cX11_takeClause 103 = .ok (.bipush 114, 2) := by decide +kernel
theorem dX11_takeClause_105 : decode cX11_takeClause 105 = .ok (.invokestatic 219, 3) := by decide +kernel
theorem dX11_takeClause_108 : decode cX11_takeClause 108 = .ok (.bipush 114, 2) := by decide +kernel
theorem dX11_takeClause_110 : decode cX11_takeClause 110 = .ok (.invokestatic 223, 3) := by decide +kernel
theorem dX11_takeClause_113 : decode cX11_takeClause 113 = .ok (.bipush 101, 2) := by decide +kernel
theorem dX11_takeClause_115 : decode cX11_takeClause 115 = .ok (.invokestatic 223, 3) := by decide +kernel
theorem dX11_takeClause_118 : decode cX11_takeClause 118 = .ok (.bipush 108, 2) := by decide +kernel
theorem dX11_takeClause_120 : decode cX11_takeClause 120 = .ok (.invokestatic 223, 3) := by decide +kernel
theorem dX11_takeClause_123 : decode cX11_takeClause 123 = .ok (.lcmp, 1) := by decide +kernel
theorem dX11_takeClause_124 : decode cX11_takeClause 124 = .ok (.ifCond .ne 7, 3) := by decide +kernel
theorem dX11_takeClause_127 : decode cX11_takeClause 127 = .ok (.iconst 3, 1) := by decide +kernel
theorem dX11_takeClause_128 : decode cX11_takeClause 128 = .ok (.goto 4, 3) := by decide +kernel
theorem dX11_takeClause_131 : decode cX11_takeClause 131 = .ok (.iconst (-1), 1) := by decide +kernel
theorem dX11_takeClause_132 : decode cX11_takeClause 132 = .ok (.istore_n 1, 1) := by decide +kernel
theorem dX11_takeClause_133 : decode cX11_takeClause 133 = .ok (.iload_n 1, 1) := by decide +kernel
theorem dX11_takeClause_134 : decode cX11_takeClause 134 = .ok (.ifCond .ge 13, 3) := by decide +kernel
theorem dX11_takeClause_137 : decode cX11_takeClause 137 = .ok (.aload_n 0, 1) := by decide +kernel
theorem dX11_takeClause_138 : decode cX11_takeClause 138 = .ok (.iconst 1, 1) := by decide +kernel
theorem dX11_takeClause_139 : decode cX11_takeClause 139 = .ok (.aload_n 0, 1) := by decide +kernel
theorem dX11_takeClause_140 : decode cX11_takeClause 140 = .ok (.getfield 158, 3) := by decide +kernel
theorem dX11_takeClause_143 : decode cX11_takeClause 143 = .ok (.invokevirtual 188, 3) := by decide +kernel
theorem dX11_takeClause_146 : decode cX11_takeClause 146 = .ok (.ireturn, 1) := by decide +kernel
theorem dX11_takeClause_147 : decode cX11_takeClause 147 = .ok (.iload_n 1, 1) := by decide +kernel
theorem dX11_takeClause_148 : decode cX11_takeClause 148 = .ok (.ifCond .ne 12, 3) := by decide +kernel
theorem dX11_takeClause_151 : decode cX11_takeClause 151 = .ok (.aload_n 0, 1) := by decide +kernel
theorem dX11_takeClause_152 : decode cX11_takeClause 152 = .ok (.getfield 198, 3) := by decide +kernel
theorem dX11_takeClause_155 : decode cX11_takeClause 155 = .ok (.bipush 16, 2) := by decide +kernel
theorem dX11_takeClause_157 : decode cX11_takeClause 157 = .ok (.if_icmp .eq 30, 3) := by decide +kernel
theorem dX11_takeClause_160 : decode cX11_takeClause 160 = .ok (.iload_n 1, 1) := by decide +kernel
theorem dX11_takeClause_161 : decode cX11_takeClause 161 = .ok (.iconst 1, 1) := by decide +kernel
theorem dX11_takeClause_162 : decode cX11_takeClause 162 = .ok (.if_icmp .ne 12, 3) := by decide +kernel
theorem dX11_takeClause_165 : decode cX11_takeClause 165 = .ok (.aload_n 0, 1) := by decide +kernel
theorem dX11_takeClause_166 : decode cX11_takeClause 166 = .ok (.getfield 210, 3) := by decide +kernel
theorem dX11_takeClause_169 : decode cX11_takeClause 169 = .ok (.bipush 40, 2) := by decide +kernel
theorem dX11_takeClause_171 : decode cX11_takeClause 171 = .ok (.if_icmp .eq 16, 3) := by decide +kernel
theorem dX11_takeClause_174 : decode cX11_takeClause 174 = .ok (.iload_n 1, 1) := by decide +kernel
theorem dX11_takeClause_175 : decode cX11_takeClause 175 = .ok (.iconst 3, 1) := by decide +kernel
theorem dX11_takeClause_176 : decode cX11_takeClause 176 = .ok (.if_icmp .ne 21, 3) := by decide +kernel
theorem dX11_takeClause_179 : decode cX11_takeClause 179 = .ok (.aload_n 0, 1) := by decide +kernel
theorem dX11_takeClause_180 : decode cX11_takeClause 180 = .ok (.getfield 227, 3) := by decide +kernel
theorem dX11_takeClause_183 : decode cX11_takeClause 183 = .ok (.iconst 4, 1) := by decide +kernel
theorem dX11_takeClause_184 : decode cX11_takeClause 184 = .ok (.if_icmp .ne 13, 3) := by decide +kernel
theorem dX11_takeClause_187 : decode cX11_takeClause 187 = .ok (.aload_n 0, 1) := by decide +kernel
theorem dX11_takeClause_188 : decode cX11_takeClause 188 = .ok (.iconst 3, 1) := by decide +kernel
theorem dX11_takeClause_189 : decode cX11_takeClause 189 = .ok (.aload_n 0, 1) := by decide +kernel
theorem dX11_takeClause_190 : decode cX11_takeClause 190 = .ok (.getfield 158, 3) := by decide +kernel
theorem dX11_takeClause_193 : decode cX11_takeClause 193 = .ok (.invokevirtual 188, 3) := by decide +kernel
theorem dX11_takeClause_196 : decode cX11_takeClause 196 = .ok (.ireturn, 1) := by decide +kernel
theorem dX11_takeClause_197 : decode cX11_takeClause 197 = .ok (.aload_n 0, 1) := by decide +kernel
theorem dX11_takeClause_198 : decode cX11_takeClause 198 = .ok (.aload_n 0, 1) := by decide +kernel
theorem dX11_takeClause_199 : decode cX11_takeClause 199 = .ok (.getfield 169, 3) := by decide +kernel
theorem dX11_takeClause_202 : decode cX11_takeClause 202 = .ok (.putfield 158, 3) := by decide +kernel
theorem dX11_takeClause_205 : decode cX11_takeClause 205 = .ok (.iload_n 1, 1) := by decide +kernel
theorem dX11_takeClause_206 : decode cX11_takeClause 206 = .ok (.ifCond .ne 13, 3) := by decide +kernel
theorem dX11_takeClause_209 : decode cX11_takeClause 209 = .ok (.aload_n 0, 1) := by decide +kernel
theorem dX11_takeClause_210 : decode cX11_takeClause 210 = .ok (.iconst 0, 1) := by decide +kernel
theorem dX11_takeClause_211 : decode cX11_takeClause 211 = .ok (.bipush 9, 2) := by decide +kernel
theorem dX11_takeClause_213 : decode cX11_takeClause 213 = .ok (.invokevirtual 201, 3) := by decide +kernel
theorem dX11_takeClause_216 : decode cX11_takeClause 216 = .ok (.goto 8, 3) := by decide +kernel
theorem dX11_takeClause_219 : decode cX11_takeClause 219 = .ok (.aload_n 0, 1) := by decide +kernel
theorem dX11_takeClause_220 : decode cX11_takeClause 220 = .ok (.iload_n 1, 1) := by decide +kernel
theorem dX11_takeClause_221 : decode cX11_takeClause 221 = .ok (.invokevirtual 230, 3) := by decide +kernel
theorem dX11_takeClause_224 : decode cX11_takeClause 224 = .ok (.istore_n 2, 1) := by decide +kernel
theorem dX11_takeClause_225 : decode cX11_takeClause 225 = .ok (.iload_n 2, 1) := by decide +kernel
theorem dX11_takeClause_226 : decode cX11_takeClause 226 = .ok (.ifCond .le 5, 3) := by decide +kernel
theorem dX11_takeClause_229 : decode cX11_takeClause 229 = .ok (.iload_n 2, 1) := by decide +kernel
theorem dX11_takeClause_230 : decode cX11_takeClause 230 = .ok (.ireturn, 1) := by decide +kernel
theorem dX11_takeClause_231 : decode cX11_takeClause 231 = .ok (.iload_n 1, 1) := by decide +kernel
theorem dX11_takeClause_232 : decode cX11_takeClause 232 = .ok (.ifCond .ne 29, 3) := by decide +kernel
theorem dX11_takeClause_235 : decode cX11_takeClause 235 = .ok (.aload_n 0, 1) := by decide +kernel
theorem dX11_takeClause_236 : decode cX11_takeClause 236 = .ok (.getfield 44, 3) := by decide +kernel
theorem dX11_takeClause_239 : decode cX11_takeClause 239 = .ok (.aload_n 0, 1) := by decide +kernel
theorem dX11_takeClause_240 : decode cX11_takeClause 240 = .ok (.getfield 198, 3) := by decide +kernel
theorem dX11_takeClause_243 : decode cX11_takeClause 243 = .ok (.aload_n 0, 1) := by decide +kernel
theorem dX11_takeClause_244 : decode cX11_takeClause 244 = .ok (.getfield 195, 3) := by decide +kernel
theorem dX11_takeClause_247 : decode cX11_takeClause 247 = .ok (.iastore, 1) := by decide +kernel
theorem dX11_takeClause_248 : decode cX11_takeClause 248 = .ok (.aload_n 0, 1) := by decide +kernel
theorem dX11_takeClause_249 : decode cX11_takeClause 249 = .ok (.dup, 1) := by decide +kernel
theorem dX11_takeClause_250 : decode cX11_takeClause 250 = .ok (.getfield 198, 3) := by decide +kernel
theorem dX11_takeClause_253 : decode cX11_takeClause 253 = .ok (.iconst 1, 1) := by decide +kernel
theorem dX11_takeClause_254 : decode cX11_takeClause 254 = .ok (.iadd, 1) := by decide +kernel
theorem dX11_takeClause_255 : decode cX11_takeClause 255 = .ok (.putfield 198, 3) := by decide +kernel
theorem dX11_takeClause_258 : decode cX11_takeClause 258 = .ok (.goto 122, 3) := by decide +kernel
theorem dX11_takeClause_261 : decode cX11_takeClause 261 = .ok (.iload_n 1, 1) := by decide +kernel
theorem dX11_takeClause_262 : decode cX11_takeClause 262 = .ok (.iconst 1, 1) := by decide +kernel
theorem dX11_takeClause_263 : decode cX11_takeClause 263 = .ok (.if_icmp .ne 42, 3) := by decide +kernel
theorem dX11_takeClause_266 : decode cX11_takeClause 266 = .ok (.aload_n 0, 1) := by decide +kernel
theorem dX11_takeClause_267 : decode cX11_takeClause 267 = .ok (.getfield 47, 3) := by decide +kernel
theorem dX11_takeClause_270 : decode cX11_takeClause 270 = .ok (.aload_n 0, 1) := by decide +kernel
theorem dX11_takeClause_271 : decode cX11_takeClause 271 = .ok (.getfield 210, 3) := by decide +kernel
theorem dX11_takeClause_274 : decode cX11_takeClause 274 = .ok (.aload_n 0, 1) := by decide +kernel
theorem dX11_takeClause_275 : decode cX11_takeClause 275 = .ok (.getfield 204, 3) := by decide +kernel
theorem dX11_takeClause_278 : decode cX11_takeClause 278 = .ok (.iastore, 1) := by decide +kernel
theorem dX11_takeClause_279 : decode cX11_takeClause 279 = .ok (.aload_n 0, 1) := by decide +kernel
theorem dX11_takeClause_280 : decode cX11_takeClause 280 = .ok (.getfield 50, 3) := by decide +kernel
theorem dX11_takeClause_283 : decode cX11_takeClause 283 = .ok (.aload_n 0, 1) := by decide +kernel
theorem dX11_takeClause_284 : decode cX11_takeClause 284 = .ok (.getfield 210, 3) := by decide +kernel
theorem dX11_takeClause_287 : decode cX11_takeClause 287 = .ok (.aload_n 0, 1) := by decide +kernel
theorem dX11_takeClause_288 : decode cX11_takeClause 288 = .ok (.getfield 207, 3) := by decide +kernel
theorem dX11_takeClause_291 : decode cX11_takeClause 291 = .ok (.iastore, 1) := by decide +kernel
theorem dX11_takeClause_292 : decode cX11_takeClause 292 = .ok (.aload_n 0, 1) := by decide +kernel
theorem dX11_takeClause_293 : decode cX11_takeClause 293 = .ok (.dup, 1) := by decide +kernel
theorem dX11_takeClause_294 : decode cX11_takeClause 294 = .ok (.getfield 210, 3) := by decide +kernel
theorem dX11_takeClause_297 : decode cX11_takeClause 297 = .ok (.iconst 1, 1) := by decide +kernel
theorem dX11_takeClause_298 : decode cX11_takeClause 298 = .ok (.iadd, 1) := by decide +kernel
theorem dX11_takeClause_299 : decode cX11_takeClause 299 = .ok (.putfield 210, 3) := by decide +kernel
theorem dX11_takeClause_302 : decode cX11_takeClause 302 = .ok (.goto 78, 3) := by decide +kernel
theorem dX11_takeClause_305 : decode cX11_takeClause 305 = .ok (.iload_n 1, 1) := by decide +kernel
theorem dX11_takeClause_306 : decode cX11_takeClause 306 = .ok (.iconst 2, 1) := by decide +kernel
theorem dX11_takeClause_307 : decode cX11_takeClause 307 = .ok (.if_icmp .ne 37, 3) := by decide +kernel
theorem dX11_takeClause_310 : decode cX11_takeClause 310 = .ok (.aload_n 0, 1) := by decide +kernel
theorem dX11_takeClause_311 : decode cX11_takeClause 311 = .ok (.getfield 53, 3) := by decide +kernel
theorem dX11_takeClause_314 : decode cX11_takeClause 314 = .ok (.aload_n 0, 1) := by decide +kernel
theorem dX11_takeClause_315 : decode cX11_takeClause 315 = .ok (.getfield 213, 3) := by decide +kernel
theorem dX11_takeClause_318 : decode cX11_takeClause 318 = .ok (.bipush 100, 2) := by decide +kernel
theorem dX11_takeClause_320 : decode cX11_takeClause 320 = .ok (.aload_n 0, 1) := by decide +kernel
theorem dX11_takeClause_321 : decode cX11_takeClause 321 = .ok (.getfield 204, 3) := by decide +kernel
theorem dX11_takeClause_324 : decode cX11_takeClause 324 = .ok (.imul, 1) := by decide +kernel
theorem dX11_takeClause_325 : decode cX11_takeClause 325 = .ok (.aload_n 0, 1) := by decide +kernel
theorem dX11_takeClause_326 : decode cX11_takeClause 326 = .ok (.getfield 207, 3) := by decide +kernel
theorem dX11_takeClause_329 : decode cX11_takeClause 329 = .ok (.iadd, 1) := by decide +kernel
theorem dX11_takeClause_330 : decode cX11_takeClause 330 = .ok (.iastore, 1) := by decide +kernel
theorem dX11_takeClause_331 : decode cX11_takeClause 331 = .ok (.aload_n 0, 1) := by decide +kernel
theorem dX11_takeClause_332 : decode cX11_takeClause 332 = .ok (.dup, 1) := by decide +kernel
theorem dX11_takeClause_333 : decode cX11_takeClause 333 = .ok (.getfield 213, 3) := by decide +kernel
theorem dX11_takeClause_336 : decode cX11_takeClause 336 = .ok (.iconst 1, 1) := by decide +kernel
theorem dX11_takeClause_337 : decode cX11_takeClause 337 = .ok (.iadd, 1) := by decide +kernel
theorem dX11_takeClause_338 : decode cX11_takeClause 338 = .ok (.putfield 213, 3) := by decide +kernel
theorem dX11_takeClause_341 : decode cX11_takeClause 341 = .ok (.goto 39, 3) := by decide +kernel
theorem dX11_takeClause_344 : decode cX11_takeClause 344 = .ok (.aload_n 0, 1) := by decide +kernel
theorem dX11_takeClause_345 : decode cX11_takeClause 345 = .ok (.getfield 56, 3) := by decide +kernel
theorem dX11_takeClause_348 : decode cX11_takeClause 348 = .ok (.aload_n 0, 1) := by decide +kernel
theorem dX11_takeClause_349 : decode cX11_takeClause 349 = .ok (.getfield 227, 3) := by decide +kernel
theorem dX11_takeClause_352 : decode cX11_takeClause 352 = .ok (.aload_n 0, 1) := by decide +kernel
theorem dX11_takeClause_353 : decode cX11_takeClause 353 = .ok (.getfield 204, 3) := by decide +kernel
theorem dX11_takeClause_356 : decode cX11_takeClause 356 = .ok (.iastore, 1) := by decide +kernel
theorem dX11_takeClause_357 : decode cX11_takeClause 357 = .ok (.aload_n 0, 1) := by decide +kernel
theorem dX11_takeClause_358 : decode cX11_takeClause 358 = .ok (.getfield 59, 3) := by decide +kernel
theorem dX11_takeClause_361 : decode cX11_takeClause 361 = .ok (.aload_n 0, 1) := by decide +kernel
theorem dX11_takeClause_362 : decode cX11_takeClause 362 = .ok (.getfield 227, 3) := by decide +kernel
theorem dX11_takeClause_365 : decode cX11_takeClause 365 = .ok (.aload_n 0, 1) := by decide +kernel
theorem dX11_takeClause_366 : decode cX11_takeClause 366 = .ok (.getfield 207, 3) := by decide +kernel
theorem dX11_takeClause_369 : decode cX11_takeClause 369 = .ok (.iastore, 1) := by decide +kernel
theorem dX11_takeClause_370 : decode cX11_takeClause 370 = .ok (.aload_n 0, 1) := by decide +kernel
theorem dX11_takeClause_371 : decode cX11_takeClause 371 = .ok (.dup, 1) := by decide +kernel
theorem dX11_takeClause_372 : decode cX11_takeClause 372 = .ok (.getfield 227, 3) := by decide +kernel
theorem dX11_takeClause_375 : decode cX11_takeClause 375 = .ok (.iconst 1, 1) := by decide +kernel
theorem dX11_takeClause_376 : decode cX11_takeClause 376 = .ok (.iadd, 1) := by decide +kernel
theorem dX11_takeClause_377 : decode cX11_takeClause 377 = .ok (.putfield 227, 3) := by decide +kernel
theorem dX11_takeClause_380 : decode cX11_takeClause 380 = .ok (.aload_n 0, 1) := by decide +kernel
theorem dX11_takeClause_381 : decode cX11_takeClause 381 = .ok (.invokevirtual 161, 3) := by decide +kernel
theorem dX11_takeClause_384 : decode cX11_takeClause 384 = .ok (.bipush 59, 2) := by decide +kernel
theorem dX11_takeClause_386 : decode cX11_takeClause 386 = .ok (.if_icmp .eq 13, 3) := by decide +kernel
theorem dX11_takeClause_389 : decode cX11_takeClause 389 = .ok (.aload_n 0, 1) := by decide +kernel
theorem dX11_takeClause_390 : decode cX11_takeClause 390 = .ok (.iconst 1, 1) := by decide +kernel
theorem dX11_takeClause_391 : decode cX11_takeClause 391 = .ok (.aload_n 0, 1) := by decide +kernel
theorem dX11_takeClause_392 : decode cX11_takeClause 392 = .ok (.getfield 158, 3) := by decide +kernel
theorem dX11_takeClause_395 : decode cX11_takeClause 395 = .ok (.invokevirtual 188, 3) := by decide +kernel
theorem dX11_takeClause_398 : decode cX11_takeClause 398 = .ok (.ireturn, 1) := by decide +kernel
theorem dX11_takeClause_399 : decode cX11_takeClause 399 = .ok (.aload_n 0, 1) := by decide +kernel
theorem dX11_takeClause_400 : decode cX11_takeClause 400 = .ok (.dup, 1) := by decide +kernel
theorem dX11_takeClause_401 : decode cX11_takeClause 401 = .ok (.getfield 158, 3) := by decide +kernel
theorem dX11_takeClause_404 : decode cX11_takeClause 404 = .ok (.iconst 1, 1) := by decide +kernel
theorem dX11_takeClause_405 : decode cX11_takeClause 405 = .ok (.iadd, 1) := by decide +kernel
theorem dX11_takeClause_406 : decode cX11_takeClause 406 = .ok (.putfield 158, 3) := by decide +kernel
theorem dX11_takeClause_409 : decode cX11_takeClause 409 = .ok (.iconst 0, 1) := by decide +kernel
theorem dX11_takeClause_410 : decode cX11_takeClause 410 = .ok (.ireturn, 1) := by decide +kernel
theorem dX11_town_0 : decode cX11_town 0 = .ok (.aload_n 0, 1) := by decide +kernel
theorem dX11_town_1 : decode cX11_town 1 = .ok (.iconst (-1), 1) := by decide +kernel
theorem dX11_town_2 : decode cX11_town 2 = .ok (.putfield 40, 3) := by decide +kernel
theorem dX11_town_5 : decode cX11_town 5 = .ok (.aload_n 0, 1) := by decide +kernel
theorem dX11_town_6 : decode cX11_town 6 = .ok (.iconst 0, 1) := by decide +kernel
theorem dX11_town_7 : decode cX11_town 7 = .ok (.putfield 158, 3) := by decide +kernel
theorem dX11_town_10 : decode cX11_town 10 = .ok (.aload_n 0, 1) := by decide +kernel
theorem dX11_town_11 : decode cX11_town 11 = .ok (.iconst 0, 1) := by decide +kernel
theorem dX11_town_12 : decode cX11_town 12 = .ok (.putfield 198, 3) := by decide +kernel
theorem dX11_town_15 : decode cX11_town 15 = .ok (.aload_n 0, 1) := by decide +kernel
theorem dX11_town_16 : decode cX11_town 16 = .ok (.iconst 0, 1) := by decide +kernel
theorem dX11_town_17 : decode cX11_town 17 = .ok (.putfield 210, 3) := by decide +kernel
theorem dX11_town_20 : decode cX11_town 20 = .ok (.aload_n 0, 1) := by decide +kernel
theorem dX11_town_21 : decode cX11_town 21 = .ok (.iconst 0, 1) := by decide +kernel
theorem dX11_town_22 : decode cX11_town 22 = .ok (.putfield 213, 3) := by decide +kernel
theorem dX11_town_25 : decode cX11_town 25 = .ok (.aload_n 0, 1) := by decide +kernel
theorem dX11_town_26 : decode cX11_town 26 = .ok (.iconst 0, 1) := by decide +kernel
theorem dX11_town_27 : decode cX11_town 27 = .ok (.putfield 227, 3) := by decide +kernel
theorem dX11_town_30 : decode cX11_town 30 = .ok (.iconst 0, 1) := by decide +kernel
theorem dX11_town_31 : decode cX11_town 31 = .ok (.istore_n 1, 1) := by decide +kernel
theorem dX11_town_32 : decode cX11_town 32 = .ok (.iload_n 1, 1) := by decide +kernel
theorem dX11_town_33 : decode cX11_town 33 = .ok (.ifCond .ne 18, 3) := by decide +kernel
theorem dX11_town_36 : decode cX11_town 36 = .ok (.aload_n 0, 1) := by decide +kernel
theorem dX11_town_37 : decode cX11_town 37 = .ok (.invokevirtual 161, 3) := by decide +kernel
theorem dX11_town_40 : decode cX11_town 40 = .ok (.ifCond .lt 11, 3) := by decide +kernel
theorem dX11_town_43 : decode cX11_town 43 = .ok (.aload_n 0, 1) := by decide +kernel
theorem dX11_town_44 : decode cX11_town 44 = .ok (.invokevirtual 234, 3) := by decide +kernel
theorem dX11_town_47 : decode cX11_town 47 = .ok (.istore_n 1, 1) := by decide +kernel
theorem dX11_town_48 : decode cX11_town 48 = .ok (.goto (-16), 3) := by decide +kernel
theorem dX11_town_51 : decode cX11_town 51 = .ok (.aload_n 0, 1) := by decide +kernel
theorem dX11_town_52 : decode cX11_town 52 = .ok (.iconst 0, 1) := by decide +kernel
theorem dX11_town_53 : decode cX11_town 53 = .ok (.putfield 153, 3) := by decide +kernel
theorem dX11_town_56 : decode cX11_town 56 = .ok (.iload_n 1, 1) := by decide +kernel
theorem dX11_town_57 : decode cX11_town 57 = .ok (.ifCond .le 8, 3) := by decide +kernel
theorem dX11_town_60 : decode cX11_town 60 = .ok (.bipush (-10), 2) := by decide +kernel
theorem dX11_town_62 : decode cX11_town 62 = .ok (.iload_n 1, 1) := by decide +kernel
theorem dX11_town_63 : decode cX11_town 63 = .ok (.isub, 1) := by decide +kernel
theorem dX11_town_64 : decode cX11_town 64 = .ok (.ireturn, 1) := by decide +kernel
theorem dX11_town_65 : decode cX11_town 65 = .ok (.aload_n 0, 1) := by decide +kernel
theorem dX11_town_66 : decode cX11_town 66 = .ok (.invokevirtual 237, 3) := by decide +kernel
theorem dX11_town_69 : decode cX11_town 69 = .ok (.aload_n 0, 1) := by decide +kernel
theorem dX11_town_70 : decode cX11_town 70 = .ok (.getfield 141, 3) := by decide +kernel
theorem dX11_town_73 : decode cX11_town 73 = .ok (.ireturn, 1) := by decide +kernel
theorem dX11_takeTown_0 : decode cX11_takeTown 0 = .ok (.aload_n 0, 1) := by decide +kernel
theorem dX11_takeTown_1 : decode cX11_takeTown 1 = .ok (.aload_n 0, 1) := by decide +kernel
theorem dX11_takeTown_2 : decode cX11_takeTown 2 = .ok (.getfield 198, 3) := by decide +kernel
theorem dX11_takeTown_5 : decode cX11_takeTown 5 = .ok (.putfield 141, 3) := by decide +kernel
theorem dX11_takeTown_8 : decode cX11_takeTown 8 = .ok (.aload_n 0, 1) := by decide +kernel
theorem dX11_takeTown_9 : decode cX11_takeTown 9 = .ok (.aload_n 0, 1) := by decide +kernel
theorem dX11_takeTown_10 : decode cX11_takeTown 10 = .ok (.getfield 210, 3) := by decide +kernel
theorem dX11_takeTown_13 : decode cX11_takeTown 13 = .ok (.putfield 240, 3) := by decide +kernel
theorem dX11_takeTown_16 : decode cX11_takeTown 16 = .ok (.aload_n 0, 1) := by decide +kernel
theorem dX11_takeTown_17 : decode cX11_takeTown 17 = .ok (.aload_n 0, 1) := by decide +kernel
theorem dX11_takeTown_18 : decode cX11_takeTown 18 = .ok (.getfield 213, 3) := by decide +kernel
theorem dX11_takeTown_21 : decode cX11_takeTown 21 = .ok (.putfield 243, 3) := by decide +kernel
theorem dX11_takeTown_24 : decode cX11_takeTown 24 = .ok (.aload_n 0, 1) := by decide +kernel
theorem dX11_takeTown_25 : decode cX11_takeTown 25 = .ok (.aload_n 0, 1) := by decide +kernel
theorem dX11_takeTown_26 : decode cX11_takeTown 26 = .ok (.getfield 227, 3) := by decide +kernel
theorem dX11_takeTown_29 : decode cX11_takeTown 29 = .ok (.putfield 148, 3) := by decide +kernel
theorem dX11_takeTown_32 : decode cX11_takeTown 32 = .ok (.iconst 0, 1) := by decide +kernel
theorem dX11_takeTown_33 : decode cX11_takeTown 33 = .ok (.istore_n 1, 1) := by decide +kernel
theorem dX11_takeTown_34 : decode cX11_takeTown 34 = .ok (.iload_n 1, 1) := by decide +kernel
theorem dX11_takeTown_35 : decode cX11_takeTown 35 = .ok (.bipush 16, 2) := by decide +kernel
theorem dX11_takeTown_37 : decode cX11_takeTown 37 = .ok (.if_icmp .ge 28, 3) := by decide +kernel
theorem dX11_takeTown_40 : decode cX11_takeTown 40 = .ok (.aload_n 0, 1) := by decide +kernel
theorem dX11_takeTown_41 : decode cX11_takeTown 41 = .ok (.getfield 7, 3) := by decide +kernel
theorem dX11_takeTown_44 : decode cX11_takeTown 44 = .ok (.iload_n 1, 1) := by decide +kernel
theorem dX11_takeTown_45 : decode cX11_takeTown 45 = .ok (.aload_n 0, 1) := by decide +kernel
theorem dX11_takeTown_46 : decode cX11_takeTown 46 = .ok (.getfield 44, 3) := by decide +kernel
theorem dX11_takeTown_49 : decode cX11_takeTown 49 = .ok (.iload_n 1, 1) := by decide +kernel
theorem dX11_takeTown_50 : decode cX11_takeTown 50 = .ok (.iaload, 1) := by decide +kernel
theorem dX11_takeTown_51 : decode cX11_takeTown 51 = .ok (.iastore, 1) := by decide +kernel
theorem dX11_takeTown_52 : decode cX11_takeTown 52 = .ok (.aload_n 0, 1) := by decide +kernel
theorem dX11_takeTown_53 : decode cX11_takeTown 53 = .ok (.getfield 19, 3) := by decide +kernel
theorem dX11_takeTown_56 : decode cX11_takeTown 56 = .ok (.iload_n 1, 1) := by decide +kernel
theorem dX11_takeTown_57 : decode cX11_takeTown 57 = .ok (.iconst 0, 1) := by decide +kernel
theorem dX11_takeTown_58 : decode cX11_takeTown 58 = .ok (.iastore, 1) := by decide +kernel
theorem dX11_takeTown_59 : decode cX11_takeTown 59 = .ok (.iinc 1 1, 3) := by decide +kernel
theorem dX11_takeTown_62 : decode cX11_takeTown 62 = .ok (.goto (-28), 3) := by decide +kernel
theorem dX11_takeTown_65 : decode cX11_takeTown 65 = .ok (.iconst 0, 1) := by decide +kernel
theorem dX11_takeTown_66 : decode cX11_takeTown 66 = .ok (.istore_n 1, 1) := by decide +kernel
theorem dX11_takeTown_67 : decode cX11_takeTown 67 = .ok (.iload_n 1, 1) := by decide +kernel
theorem dX11_takeTown_68 : decode cX11_takeTown 68 = .ok (.aload_n 0, 1) := by decide +kernel
theorem dX11_takeTown_69 : decode cX11_takeTown 69 = .ok (.getfield 240, 3) := by decide +kernel
theorem dX11_takeTown_72 : decode cX11_takeTown 72 = .ok (.if_icmp .ge 55, 3) := by decide +kernel
theorem dX11_takeTown_75 : decode cX11_takeTown 75 = .ok (.aload_n 0, 1) := by decide +kernel
theorem dX11_takeTown_76 : decode cX11_takeTown 76 = .ok (.getfield 13, 3) := by decide +kernel
theorem dX11_takeTown_79 : decode cX11_takeTown 79 = .ok (.iload_n 1, 1) := by decide +kernel
theorem dX11_takeTown_80 : decode cX11_takeTown 80 = .ok (.aload_n 0, 1) := by decide +kernel
theorem dX11_takeTown_81 : decode cX11_takeTown 81 = .ok (.getfield 47, 3) := by decide +kernel
theorem dX11_takeTown_84 : decode cX11_takeTown 84 = .ok (.iload_n 1, 1) := by decide +kernel
theorem dX11_takeTown_85 : decode cX11_takeTown 85 = .ok (.iaload, 1) := by decide +kernel
theorem dX11_takeTown_86 : decode cX11_takeTown 86 = .ok (.iastore, 1) := by decide +kernel
theorem dX11_takeTown_87 : decode cX11_takeTown 87 = .ok (.aload_n 0, 1) := by decide +kernel
theorem dX11_takeTown_88 : decode cX11_takeTown 88 = .ok (.getfield 16, 3) := by decide +kernel
theorem dX11_takeTown_91 : decode cX11_takeTown 91 = .ok (.iload_n 1, 1) := by decide +kernel
theorem dX11_takeTown_92 : decode cX11_takeTown 92 = .ok (.aload_n 0, 1) := by decide +kernel
theorem dX11_takeTown_93 : decode cX11_takeTown 93 = .ok (.getfield 50, 3) := by decide +kernel
theorem dX11_takeTown_96 : decode cX11_takeTown 96 = .ok (.iload_n 1, 1) := by decide +kernel
theorem dX11_takeTown_97 : decode cX11_takeTown 97 = .ok (.iaload, 1) := by decide +kernel
theorem dX11_takeTown_98 : decode cX11_takeTown 98 = .ok (.iastore, 1) := by decide +kernel
theorem dX11_takeTown_99 : decode cX11_takeTown 99 = .ok (.aload_n 0, 1) := by decide +kernel
theorem dX11_takeTown_100 : decode cX11_takeTown 100 = .ok (.getfield 19, 3) := by decide +kernel
theorem dX11_takeTown_103 : decode cX11_takeTown 103 = .ok (.aload_n 0, 1) := by decide +kernel
theorem dX11_takeTown_104 : decode cX11_takeTown 104 = .ok (.getfield 16, 3) := by decide +kernel
theorem dX11_takeTown_107 : decode cX11_takeTown 107 = .ok (.iload_n 1, 1) := by decide +kernel
theorem dX11_takeTown_108 : decode cX11_takeTown 108 = .ok (.iaload, 1) := by decide +kernel
theorem dX11_takeTown_109 : decode cX11_takeTown 109 = .ok (.dup2, 1) := by decide +kernel
theorem dX11_takeTown_110 : decode cX11_takeTown 110 = .ok (.iaload, 1) := by decide +kernel
theorem dX11_takeTown_111 : decode cX11_takeTown 111 = .ok (.iconst 1, 1) := by decide +kernel
theorem dX11_takeTown_112 : decode cX11_takeTown 112 = .ok (.aload_n 0, 1) := by decide +kernel
theorem dX11_takeTown_113 : decode cX11_takeTown 113 = .ok (.getfield 13, 3) := by decide +kernel
theorem dX11_takeTown_116 : decode cX11_takeTown 116 = .ok (.iload_n 1, 1) := by decide +kernel
theorem dX11_takeTown_117 : decode cX11_takeTown 117 = .ok (.iaload, 1) := by decide +kernel
theorem dX11_takeTown_118 : decode cX11_takeTown 118 = .ok (.ishl, 1) := by decide +kernel
theorem dX11_takeTown_119 : decode cX11_takeTown 119 = .ok (.ior, 1) := by decide +kernel
theorem dX11_takeTown_120 : decode cX11_takeTown 120 = .ok (.iastore, 1) := by decide +kernel
theorem dX11_takeTown_121 : decode cX11_takeTown 121 = .ok (.iinc 1 1, 3) := by decide +kernel
theorem dX11_takeTown_124 : decode cX11_takeTown 124 = .ok (.goto (-57), 3) := by decide +kernel
theorem dX11_takeTown_127 : decode cX11_takeTown 127 = .ok (.iconst 0, 1) := by decide +kernel
theorem dX11_takeTown_128 : decode cX11_takeTown 128 = .ok (.istore_n 1, 1) := by decide +kernel
theorem dX11_takeTown_129 : decode cX11_takeTown 129 = .ok (.iload_n 1, 1) := by decide +kernel
theorem dX11_takeTown_130 : decode cX11_takeTown 130 = .ok (.aload_n 0, 1) := by decide +kernel
theorem dX11_takeTown_131 : decode cX11_takeTown 131 = .ok (.getfield 243, 3) := by decide +kernel
theorem dX11_takeTown_134 : decode cX11_takeTown 134 = .ok (.if_icmp .ge 21, 3) := by decide +kernel
theorem dX11_takeTown_137 : decode cX11_takeTown 137 = .ok (.aload_n 0, 1) := by decide +kernel
theorem dX11_takeTown_138 : decode cX11_takeTown 138 = .ok (.getfield 22, 3) := by decide +kernel
theorem dX11_takeTown_141 : decode cX11_takeTown 141 = .ok (.iload_n 1, 1) := by decide +kernel
theorem dX11_takeTown_142 : decode cX11_takeTown 142 = .ok (.aload_n 0, 1) := by decide +kernel
theorem dX11_takeTown_143 : decode cX11_takeTown 143 = .ok (.getfield 53, 3) := by decide +kernel
theorem dX11_takeTown_146 : decode cX11_takeTown 146 = .ok (.iload_n 1, 1) := by decide +kernel
theorem dX11_takeTown_147 : decode cX11_takeTown 147 = .ok (.iaload, 1) := by decide +kernel
theorem dX11_takeTown_148 : decode cX11_takeTown 148 = .ok (.iastore, 1) := by decide +kernel
theorem dX11_takeTown_149 : decode cX11_takeTown 149 = .ok (.iinc 1 1, 3) := by decide +kernel
theorem dX11_takeTown_152 : decode cX11_takeTown 152 = .ok (.goto (-23), 3) := by decide +kernel
theorem dX11_takeTown_155 : decode cX11_takeTown 155 = .ok (.iconst 0, 1) := by decide +kernel
theorem dX11_takeTown_156 : decode cX11_takeTown 156 = .ok (.istore_n 1, 1) := by decide +kernel
theorem dX11_takeTown_157 : decode cX11_takeTown 157 = .ok (.iload_n 1, 1) := by decide +kernel
theorem dX11_takeTown_158 : decode cX11_takeTown 158 = .ok (.aload_n 0, 1) := by decide +kernel
theorem dX11_takeTown_159 : decode cX11_takeTown 159 = .ok (.getfield 148, 3) := by decide +kernel
theorem dX11_takeTown_162 : decode cX11_takeTown 162 = .ok (.if_icmp .ge 51, 3) := by decide +kernel
theorem dX11_takeTown_165 : decode cX11_takeTown 165 = .ok (.aload_n 0, 1) := by decide +kernel
theorem dX11_takeTown_166 : decode cX11_takeTown 166 = .ok (.getfield 25, 3) := by decide +kernel
theorem dX11_takeTown_169 : decode cX11_takeTown 169 = .ok (.iload_n 1, 1) := by decide +kernel
theorem dX11_takeTown_170 : decode cX11_takeTown 170 = .ok (.aload_n 0, 1) := by decide +kernel
theorem dX11_takeTown_171 : decode cX11_takeTown 171 = .ok (.getfield 56, 3) := by decide +kernel
theorem dX11_takeTown_174 : decode cX11_takeTown 174 = .ok (.iload_n 1, 1) := by decide +kernel
theorem dX11_takeTown_175 : decode cX11_takeTown 175 = .ok (.iaload, 1) := by decide +kernel
theorem dX11_takeTown_176 : decode cX11_takeTown 176 = .ok (.iastore, 1) := by decide +kernel
theorem dX11_takeTown_177 : decode cX11_takeTown 177 = .ok (.aload_n 0, 1) := by decide +kernel
theorem dX11_takeTown_178 : decode cX11_takeTown 178 = .ok (.getfield 28, 3) := by decide +kernel
theorem dX11_takeTown_181 : decode cX11_takeTown 181 = .ok (.iload_n 1, 1) := by decide +kernel
theorem dX11_takeTown_182 : decode cX11_takeTown 182 = .ok (.aload_n 0, 1) := by decide +kernel
theorem dX11_takeTown_183 : decode cX11_takeTown 183 = .ok (.getfield 59, 3) := by decide +kernel
theorem dX11_takeTown_186 : decode cX11_takeTown 186 = .ok (.iload_n 1, 1) := by decide +kernel
theorem dX11_takeTown_187 : decode cX11_takeTown 187 = .ok (.iaload, 1) := by decide +kernel
theorem dX11_takeTown_188 : decode cX11_takeTown 188 = .ok (.iastore, 1) := by decide +kernel
theorem dX11_takeTown_189 : decode cX11_takeTown 189 = .ok (.aload_n 0, 1) := by decide +kernel
theorem dX11_takeTown_190 : decode cX11_takeTown 190 = .ok (.getfield 31, 3) := by decide +kernel
theorem dX11_takeTown_193 : decode cX11_takeTown 193 = .ok (.iload_n 1, 1) := by decide +kernel
theorem dX11_takeTown_194 : decode cX11_takeTown 194 = .ok (.aload_n 0, 1) := by decide +kernel
theorem dX11_takeTown_195 : decode cX11_takeTown 195 = .ok (.iload_n 1, 1) := by decide +kernel
theorem dX11_takeTown_196 : decode cX11_takeTown 196 = .ok (.invokevirtual 246, 3) := by decide +kernel
theorem dX11_takeTown_199 : decode cX11_takeTown 199 = .ok (.iastore, 1) := by decide +kernel
theorem dX11_takeTown_200 : decode cX11_takeTown 200 = .ok (.aload_n 0, 1) := by decide +kernel
theorem dX11_takeTown_201 : decode cX11_takeTown 201 = .ok (.getfield 34, 3) := by decide +kernel
theorem dX11_takeTown_204 : decode cX11_takeTown 204 = .ok (.iload_n 1, 1) := by decide +kernel
theorem dX11_takeTown_205 : decode cX11_takeTown 205 = .ok (.iconst 0, 1) := by decide +kernel
theorem dX11_takeTown_206 : decode cX11_takeTown 206 = .ok (.iastore, 1) := by decide +kernel
theorem dX11_takeTown_207 : decode cX11_takeTown 207 = .ok (.iinc 1 1, 3) := by decide +kernel
theorem dX11_takeTown_210 : decode cX11_takeTown 210 = .ok (.goto (-53), 3) := by decide +kernel
theorem dX11_takeTown_213 : decode cX11_takeTown 213 = .ok (.aload_n 0, 1) := by decide +kernel
theorem dX11_takeTown_214 : decode cX11_takeTown 214 = .ok (.iconst 0, 1) := by decide +kernel
theorem dX11_takeTown_215 : decode cX11_takeTown 215 = .ok (.putfield 249, 3) := by decide +kernel
theorem dX11_takeTown_218 : decode cX11_takeTown 218 = .ok (.aload_n 0, 1) := by decide +kernel
theorem dX11_takeTown_219 : decode cX11_takeTown 219 = .ok (.iconst 0, 1) := by decide +kernel
theorem dX11_takeTown_220 : decode cX11_takeTown 220 = .ok (.putfield 252, 3) := by decide +kernel
theorem dX11_takeTown_223 : decode cX11_takeTown 223 = .ok (.aload_n 0, 1) := by decide +kernel
theorem dX11_takeTown_224 : decode cX11_takeTown 224 = .ok (.getfield 138, 3) := by decide +kernel
theorem dX11_takeTown_227 : decode cX11_takeTown 227 = .ok (.iconst 0, 1) := by decide +kernel
theorem dX11_takeTown_228 : decode cX11_takeTown 228 = .ok (.iconst 0, 1) := by decide +kernel
theorem dX11_takeTown_229 : decode cX11_takeTown 229 = .ok (.bastore, 1) := by decide +kernel
theorem dX11_takeTown_230 : decode cX11_takeTown 230 = .ok (.aload_n 0, 1) := by decide +kernel
theorem dX11_takeTown_231 : decode cX11_takeTown 231 = .ok (.getfield 138, 3) := by decide +kernel
theorem dX11_takeTown_234 : decode cX11_takeTown 234 = .ok (.iconst 1, 1) := by decide +kernel
theorem dX11_takeTown_235 : decode cX11_takeTown 235 = .ok (.iconst 0, 1) := by decide +kernel
theorem dX11_takeTown_236 : decode cX11_takeTown 236 = .ok (.bastore, 1) := by decide +kernel
theorem dX11_takeTown_237 : decode cX11_takeTown 237 = .ok (.return_, 1) := by decide +kernel
theorem dX11_fault_0 : decode cX11_fault 0 = .ok (.aload_n 0, 1) := by decide +kernel
theorem dX11_fault_1 : decode cX11_fault 1 = .ok (.getfield 40, 3) := by decide +kernel
theorem dX11_fault_4 : decode cX11_fault 4 = .ok (.ireturn, 1) := by decide +kernel
theorem dX11_count_0 : decode cX11_count 0 = .ok (.iload_n 1, 1) := by decide +kernel
theorem dX11_count_1 : decode cX11_count 1 = .ok (.tableswitch 78 0 6 #[43, 48, 53, 58, 63, 68, 73], 43) := by decide +kernel
theorem dX11_count_44 : decode cX11_count 44 = .ok (.aload_n 0, 1) := by decide +kernel
theorem dX11_count_45 : decode cX11_count 45 = .ok (.getfield 141, 3) := by decide +kernel
theorem dX11_count_48 : decode cX11_count 48 = .ok (.ireturn, 1) := by decide +kernel
theorem dX11_count_49 : decode cX11_count 49 = .ok (.aload_n 0, 1) := by decide +kernel
theorem dX11_count_50 : decode cX11_count 50 = .ok (.getfield 240, 3) := by decide +kernel
theorem dX11_count_53 : decode cX11_count 53 = .ok (.ireturn, 1) := by decide +kernel
theorem dX11_count_54 : decode cX11_count 54 = .ok (.aload_n 0, 1) := by decide +kernel
theorem dX11_count_55 : decode cX11_count 55 = .ok (.getfield 243, 3) := by decide +kernel
theorem dX11_count_58 : decode cX11_count 58 = .ok (.ireturn, 1) := by decide +kernel
theorem dX11_count_59 : decode cX11_count 59 = .ok (.aload_n 0, 1) := by decide +kernel
theorem dX11_count_60 : decode cX11_count 60 = .ok (.getfield 148, 3) := by decide +kernel
theorem dX11_count_63 : decode cX11_count 63 = .ok (.ireturn, 1) := by decide +kernel
theorem dX11_count_64 : decode cX11_count 64 = .ok (.aload_n 0, 1) := by decide +kernel
theorem dX11_count_65 : decode cX11_count 65 = .ok (.getfield 153, 3) := by decide +kernel
theorem dX11_count_68 : decode cX11_count 68 = .ok (.ireturn, 1) := by decide +kernel
theorem dX11_count_69 : decode cX11_count 69 = .ok (.aload_n 0, 1) := by decide +kernel
theorem dX11_count_70 : decode cX11_count 70 = .ok (.getfield 249, 3) := by decide +kernel
theorem dX11_count_73 : decode cX11_count 73 = .ok (.ireturn, 1) := by decide +kernel
theorem dX11_count_74 : decode cX11_count 74 = .ok (.aload_n 0, 1) := by decide +kernel
theorem dX11_count_75 : decode cX11_count 75 = .ok (.getfield 252, 3) := by decide +kernel
theorem dX11_count_78 : decode cX11_count 78 = .ok (.ireturn, 1) := by decide +kernel
theorem dX11_count_79 : decode cX11_count 79 = .ok (.sipush (-1002), 3) := by decide +kernel
theorem dX11_count_82 : decode cX11_count 82 = .ok (.ireturn, 1) := by decide +kernel
theorem dX11_bears_0 : decode cX11_bears 0 = .ok (.iconst 0, 1) := by decide +kernel
theorem dX11_bears_1 : decode cX11_bears 1 = .ok (.istore_n 2, 1) := by decide +kernel
theorem dX11_bears_2 : decode cX11_bears 2 = .ok (.iconst 0, 1) := by decide +kernel
theorem dX11_bears_3 : decode cX11_bears 3 = .ok (.istore_n 3, 1) := by decide +kernel
theorem dX11_bears_4 : decode cX11_bears 4 = .ok (.iload_n 3, 1) := by decide +kernel
theorem dX11_bears_5 : decode cX11_bears 5 = .ok (.aload_n 0, 1) := by decide +kernel
theorem dX11_bears_6 : decode cX11_bears 6 = .ok (.getfield 243, 3) := by decide +kernel
theorem dX11_bears_9 : decode cX11_bears 9 = .ok (.if_icmp .ge 71, 3) := by decide +kernel
theorem dX11_bears_12 : decode cX11_bears 12 = .ok (.iload_n 2, 1) := by decide +kernel
theorem dX11_bears_13 : decode cX11_bears 13 = .ok (.aload_n 0, 1) := by decide +kernel
theorem dX11_bears_14 : decode cX11_bears 14 = .ok (.getfield 22, 3) := by decide +kernel
theorem dX11_bears_17 : decode cX11_bears 17 = .ok (.iload_n 3, 1) := by decide +kernel
theorem dX11_bears_18 : decode cX11_bears 18 = .ok (.iaload, 1) := by decide +kernel
theorem dX11_bears_19 : decode cX11_bears 19 = .ok (.bipush 100, 2) := by decide +kernel
theorem dX11_bears_21 : decode cX11_bears 21 = .ok (.idiv, 1) := by decide +kernel
theorem dX11_bears_22 : decode cX11_bears 22 = .ok (.iload_n 1, 1) := by decide +kernel
theorem dX11_bears_23 : decode cX11_bears 23 = .ok (.if_icmp .ne 17, 3) := by decide +kernel
theorem dX11_bears_26 : decode cX11_bears 26 = .ok (.iconst 1, 1) := by decide +kernel
theorem dX11_bears_27 : decode cX11_bears 27 = .ok (.aload_n 0, 1) := by decide +kernel
theorem dX11_bears_28 : decode cX11_bears 28 = .ok (.getfield 22, 3) := by decide +kernel
theorem dX11_bears_31 : decode cX11_bears 31 = .ok (.iload_n 3, 1) := by decide +kernel
theorem dX11_bears_32 : decode cX11_bears 32 = .ok (.iaload, 1) := by decide +kernel
theorem dX11_bears_33 : decode cX11_bears 33 = .ok (.bipush 100, 2) := by decide +kernel
theorem dX11_bears_35 : decode cX11_bears 35 = .ok (.irem, 1) := by decide +kernel
theorem dX11_bears_36 : decode cX11_bears 36 = .ok (.ishl, 1) := by decide +kernel
theorem dX11_bears_37 : decode cX11_bears 37 = .ok (.goto 4, 3) := by decide +kernel
theorem dX11_bears_40 : decode cX11_bears 40 = .ok (.iconst 0, 1) := by decide +kernel
theorem dX11_bears_41 : decode cX11_bears 41 = .ok (.ior, 1) := by decide +kernel
theorem dX11_bears_42 : decode cX11_bears 42 = .ok (.istore_n 2, 1) := by decide +kernel
theorem dX11_bears_43 : decode cX11_bears 43 = .ok (.iload_n 2, 1) := by decide +kernel
theorem dX11_bears_44 : decode cX11_bears 44 = .ok (.aload_n 0, 1) := by decide +kernel
theorem dX11_bears_45 : decode cX11_bears 45 = .ok (.getfield 22, 3) := by decide +kernel
theorem dX11_bears_48 : decode cX11_bears 48 = .ok (.iload_n 3, 1) := by decide +kernel
theorem dX11_bears_49 : decode cX11_bears 49 = .ok (.iaload, 1) := by decide +kernel
theorem dX11_bears_50 : decode cX11_bears 50 = .ok (.bipush 100, 2) := by decide +kernel
theorem dX11_bears_52 : decode cX11_bears 52 = .ok (.irem, 1) := by decide +kernel
theorem dX11_bears_53 : decode cX11_bears 53 = .ok (.iload_n 1, 1) := by decide +kernel
theorem dX11_bears_54 : decode cX11_bears 54 = .ok (.if_icmp .ne 17, 3) := by decide +kernel
theorem dX11_bears_57 : decode cX11_bears 57 = .ok (.iconst 1, 1) := by decide +kernel
theorem dX11_bears_58 : decode cX11_bears 58 = .ok (.aload_n 0, 1) := by decide +kernel
theorem dX11_bears_59 : decode cX11_bears 59 = .ok (.getfield 22, 3) := by decide +kernel
theorem dX11_bears_62 : decode cX11_bears 62 = .ok (.iload_n 3, 1) := by decide +kernel
theorem dX11_bears_63 : decode cX11_bears 63 = .ok (.iaload, 1) := by decide +kernel
theorem dX11_bears_64 : decode cX11_bears 64 = .ok (.bipush 100, 2) := by decide +kernel
theorem dX11_bears_66 : decode cX11_bears 66 = .ok (.idiv, 1) := by decide +kernel
theorem dX11_bears_67 : decode cX11_bears 67 = .ok (.ishl, 1) := by decide +kernel
theorem dX11_bears_68 : decode cX11_bears 68 = .ok (.goto 4, 3) := by decide +kernel
theorem dX11_bears_71 : decode cX11_bears 71 = .ok (.iconst 0, 1) := by decide +kernel
theorem dX11_bears_72 : decode cX11_bears 72 = .ok (.ior, 1) := by decide +kernel
theorem dX11_bears_73 : decode cX11_bears 73 = .ok (.istore_n 2, 1) := by decide +kernel
theorem dX11_bears_74 : decode cX11_bears 74 = .ok (.iinc 3 1, 3) := by decide +kernel
theorem dX11_bears_77 : decode cX11_bears 77 = .ok (.goto (-73), 3) := by decide +kernel
theorem dX11_bears_80 : decode cX11_bears 80 = .ok (.iload_n 2, 1) := by decide +kernel
theorem dX11_bears_81 : decode cX11_bears 81 = .ok (.ireturn, 1) := by decide +kernel
theorem dX11_person_0 : decode cX11_person 0 = .ok (.aload_n 0, 1) := by decide +kernel
theorem dX11_person_1 : decode cX11_person 1 = .ok (.iload_n 1, 1) := by decide +kernel
theorem dX11_person_2 : decode cX11_person 2 = .ok (.invokevirtual 255, 3) := by decide +kernel
theorem dX11_person_5 : decode cX11_person 5 = .ok (.ifCond .ne 7, 3) := by decide +kernel
theorem dX11_person_8 : decode cX11_person 8 = .ok (.sipush (-1001), 3) := by decide +kernel
theorem dX11_person_11 : decode cX11_person 11 = .ok (.ireturn, 1) := by decide +kernel
theorem dX11_person_12 : decode cX11_person 12 = .ok (.iconst 0, 1) := by decide +kernel
theorem dX11_person_13 : decode cX11_person 13 = .ok (.istore_n 3, 1) := by decide +kernel
theorem dX11_person_14 : decode cX11_person 14 = .ok (.iconst 0, 1) := by decide +kernel
theorem dX11_person_15 : decode cX11_person 15 = .ok (.istore 4, 2) := by decide +kernel
theorem dX11_person_17 : decode cX11_person 17 = .ok (.iload 4, 2) := by decide +kernel
theorem dX11_person_19 : decode cX11_person 19 = .ok (.aload_n 0, 1) := by decide +kernel
theorem dX11_person_20 : decode cX11_person 20 = .ok (.getfield 240, 3) := by decide +kernel
theorem dX11_person_23 : decode cX11_person 23 = .ok (.if_icmp .ge 36, 3) := by decide +kernel
theorem dX11_person_26 : decode cX11_person 26 = .ok (.iload_n 3, 1) := by decide +kernel
theorem dX11_person_27 : decode cX11_person 27 = .ok (.aload_n 0, 1) := by decide +kernel
theorem dX11_person_28 : decode cX11_person 28 = .ok (.getfield 13, 3) := by decide +kernel
theorem dX11_person_31 : decode cX11_person 31 = .ok (.iload 4, 2) := by decide +kernel
theorem dX11_person_33 : decode cX11_person 33 = .ok (.iaload, 1) := by decide +kernel
theorem dX11_person_34 : decode cX11_person 34 = .ok (.iload_n 1, 1) := by decide +kernel
theorem dX11_person_35 : decode cX11_person 35 = .ok (.if_icmp .ne 15, 3) := by decide +kernel
theorem dX11_person_38 : decode cX11_person 38 = .ok (.iconst 1, 1) := by decide +kernel
theorem dX11_person_39 : decode cX11_person 39 = .ok (.aload_n 0, 1) := by decide +kernel
theorem dX11_person_40 : decode cX11_person 40 = .ok (.getfield 16, 3) := by decide +kernel
theorem dX11_person_43 : decode cX11_person 43 = .ok (.iload 4, 2) := by decide +kernel
theorem dX11_person_45 : decode cX11_person 45 = .ok (.iaload, 1) := by decide +kernel
theorem dX11_person_46 : decode cX11_person 46 = .ok (.ishl, 1) := by decide +kernel
theorem dX11_person_47 : decode cX11_person 47 = .ok (.goto 4, 3) := by decide +kernel
theorem dX11_person_50 : decode cX11_person 50 = .ok (.iconst 0, 1) := by decide +kernel
theorem dX11_person_51 : decode cX11_person 51 = .ok (.ior, 1) := by decide +kernel
theorem dX11_person_52 : decode cX11_person 52 = .ok (.istore_n 3, 1) := by decide +kernel
theorem dX11_person_53 : decode cX11_person 53 = .ok (.iinc 4 1, 3) := by decide +kernel
theorem dX11_person_56 : decode cX11_person 56 = .ok (.goto (-39), 3) := by decide +kernel
theorem dX11_person_59 : decode cX11_person 59 = .ok (.iload_n 2, 1) := by decide +kernel
theorem dX11_person_60 : decode cX11_person 60 = .ok (.ifCond .ne 12, 3) := by decide +kernel
theorem dX11_person_63 : decode cX11_person 63 = .ok (.aload_n 0, 1) := by decide +kernel
theorem dX11_person_64 : decode cX11_person 64 = .ok (.getfield 7, 3) := by decide +kernel
theorem dX11_person_67 : decode cX11_person 67 = .ok (.iload_n 1, 1) := by decide +kernel
theorem dX11_person_68 : decode cX11_person 68 = .ok (.iaload, 1) := by decide +kernel
theorem dX11_person_69 : decode cX11_person 69 = .ok (.goto 42, 3) := by decide +kernel
theorem dX11_person_72 : decode cX11_person 72 = .ok (.iload_n 2, 1) := by decide +kernel
theorem dX11_person_73 : decode cX11_person 73 = .ok (.iconst 1, 1) := by decide +kernel
theorem dX11_person_74 : decode cX11_person 74 = .ok (.if_icmp .ne 12, 3) := by decide +kernel
theorem dX11_person_77 : decode cX11_person 77 = .ok (.aload_n 0, 1) := by decide +kernel
theorem dX11_person_78 : decode cX11_person 78 = .ok (.getfield 19, 3) := by decide +kernel
theorem dX11_person_81 : decode cX11_person 81 = .ok (.iload_n 1, 1) := by decide +kernel
theorem dX11_person_82 : decode cX11_person 82 = .ok (.iaload, 1) := by decide +kernel
theorem dX11_person_83 : decode cX11_person 83 = .ok (.goto 28, 3) := by decide +kernel
theorem dX11_person_86 : decode cX11_person 86 = .ok (.iload_n 2, 1) := by decide +kernel
theorem dX11_person_87 : decode cX11_person 87 = .ok (.iconst 2, 1) := by decide +kernel
theorem dX11_person_88 : decode cX11_person 88 = .ok (.if_icmp .ne 7, 3) := by decide +kernel
theorem dX11_person_91 : decode cX11_person 91 = .ok (.iload_n 3, 1) := by decide +kernel
theorem dX11_person_92 : decode cX11_person 92 = .ok (.goto 19, 3) := by decide +kernel
theorem dX11_person_95 : decode cX11_person 95 = .ok (.iload_n 2, 1) := by decide +kernel
theorem dX11_person_96 : decode cX11_person 96 = .ok (.iconst 3, 1) := by decide +kernel
theorem dX11_person_97 : decode cX11_person 97 = .ok (.if_icmp .ne 11, 3) := by decide +kernel
theorem dX11_person_100 : decode cX11_person 100 = .ok (.aload_n 0, 1) := by decide +kernel
theorem dX11_person_101 : decode cX11_person 101 = .ok (.iload_n 1, 1) := by decide +kernel
theorem dX11_person_102 : decode cX11_person 102 = .ok (.invokevirtual 259, 3) := by decide +kernel
theorem dX11_person_105 : decode cX11_person 105 = .ok (.goto 6, 3) := by decide +kernel
theorem dX11_person_108 : decode cX11_person 108 = .ok (.sipush (-1002), 3) := by decide +kernel
theorem dX11_person_111 : decode cX11_person 111 = .ok (.ireturn, 1) := by decide +kernel
theorem dX11_turn_0 : decode cX11_turn 0 = .ok (.iload_n 1, 1) := by decide +kernel
theorem dX11_turn_1 : decode cX11_turn 1 = .ok (.i2l, 1) := by decide +kernel
theorem dX11_turn_2 : decode cX11_turn 2 = .ok (.lconst 0, 1) := by decide +kernel
theorem dX11_turn_3 : decode cX11_turn 3 = .ok (.aload_n 0, 1) := by decide +kernel
theorem dX11_turn_4 : decode cX11_turn 4 = .ok (.getfield 240, 3) := by decide +kernel
theorem dX11_turn_7 : decode cX11_turn 7 = .ok (.iconst 1, 1) := by decide +kernel
theorem dX11_turn_8 : decode cX11_turn 8 = .ok (.isub, 1) := by decide +kernel
theorem dX11_turn_9 : decode cX11_turn 9 = .ok (.i2l, 1) := by decide +kernel
theorem dX11_turn_10 : decode cX11_turn 10 = .ok (.invokestatic 144, 3) := by decide +kernel
theorem dX11_turn_13 : decode cX11_turn 13 = .ok (.ifCond .ne 7, 3) := by decide +kernel
theorem dX11_turn_16 : decode cX11_turn 16 = .ok (.sipush (-1001), 3) := by decide +kernel
theorem dX11_turn_19 : decode cX11_turn 19 = .ok (.ireturn, 1) := by decide +kernel
theorem dX11_turn_20 : decode cX11_turn 20 = .ok (.iload_n 2, 1) := by decide +kernel
theorem dX11_turn_21 : decode cX11_turn 21 = .ok (.ifCond .ne 12, 3) := by decide +kernel
theorem dX11_turn_24 : decode cX11_turn 24 = .ok (.aload_n 0, 1) := by decide +kernel
theorem dX11_turn_25 : decode cX11_turn 25 = .ok (.getfield 13, 3) := by decide +kernel
theorem dX11_turn_28 : decode cX11_turn 28 = .ok (.iload_n 1, 1) := by decide +kernel
theorem dX11_turn_29 : decode cX11_turn 29 = .ok (.iaload, 1) := by decide +kernel
theorem dX11_turn_30 : decode cX11_turn 30 = .ok (.goto 20, 3) := by decide +kernel
theorem dX11_turn_33 : decode cX11_turn 33 = .ok (.iload_n 2, 1) := by decide +kernel
theorem dX11_turn_34 : decode cX11_turn 34 = .ok (.iconst 1, 1) := by decide +kernel
theorem dX11_turn_35 : decode cX11_turn 35 = .ok (.if_icmp .ne 12, 3) := by decide +kernel
theorem dX11_turn_38 : decode cX11_turn 38 = .ok (.aload_n 0, 1) := by decide +kernel
theorem dX11_turn_39 : decode cX11_turn 39 = .ok (.getfield 16, 3) := by decide +kernel
theorem dX11_turn_42 : decode cX11_turn 42 = .ok (.iload_n 1, 1) := by decide +kernel
theorem dX11_turn_43 : decode cX11_turn 43 = .ok (.iaload, 1) := by decide +kernel
theorem dX11_turn_44 : decode cX11_turn 44 = .ok (.goto 6, 3) := by decide +kernel
theorem dX11_turn_47 : decode cX11_turn 47 = .ok (.sipush (-1002), 3) := by decide +kernel
theorem dX11_turn_50 : decode cX11_turn 50 = .ok (.ireturn, 1) := by decide +kernel
theorem dX11_grudge_0 : decode cX11_grudge 0 = .ok (.iload_n 1, 1) := by decide +kernel
theorem dX11_grudge_1 : decode cX11_grudge 1 = .ok (.i2l, 1) := by decide +kernel
theorem dX11_grudge_2 : decode cX11_grudge 2 = .ok (.lconst 0, 1) := by decide +kernel
theorem dX11_grudge_3 : decode cX11_grudge 3 = .ok (.aload_n 0, 1) := by decide +kernel
theorem dX11_grudge_4 : decode cX11_grudge 4 = .ok (.getfield 243, 3) := by decide +kernel
theorem dX11_grudge_7 : decode cX11_grudge 7 = .ok (.iconst 1, 1) := by decide +kernel
theorem dX11_grudge_8 : decode cX11_grudge 8 = .ok (.isub, 1) := by decide +kernel
theorem dX11_grudge_9 : decode cX11_grudge 9 = .ok (.i2l, 1) := by decide +kernel
theorem dX11_grudge_10 : decode cX11_grudge 10 = .ok (.invokestatic 144, 3) := by decide +kernel
theorem dX11_grudge_13 : decode cX11_grudge 13 = .ok (.ifCond .eq 12, 3) := by decide +kernel
theorem dX11_grudge_16 : decode cX11_grudge 16 = .ok (.aload_n 0, 1) := by decide +kernel
theorem dX11_grudge_17 : decode cX11_grudge 17 = .ok (.getfield 22, 3) := by decide +kernel
theorem dX11_grudge_20 : decode cX11_grudge 20 = .ok (.iload_n 1, 1) := by decide +kernel
theorem dX11_grudge_21 : decode cX11_grudge 21 = .ok (.iaload, 1) := by decide +kernel
theorem dX11_grudge_22 : decode cX11_grudge 22 = .ok (.goto 6, 3) := by decide +kernel
theorem dX11_grudge_25 : decode cX11_grudge 25 = .ok (.sipush (-1001), 3) := by decide +kernel
theorem dX11_grudge_28 : decode cX11_grudge 28 = .ok (.ireturn, 1) := by decide +kernel
theorem dX11_law_0 : decode cX11_law 0 = .ok (.iload_n 1, 1) := by decide +kernel
theorem dX11_law_1 : decode cX11_law 1 = .ok (.i2l, 1) := by decide +kernel
theorem dX11_law_2 : decode cX11_law 2 = .ok (.lconst 0, 1) := by decide +kernel
theorem dX11_law_3 : decode cX11_law 3 = .ok (.lconst 1, 1) := by decide +kernel
theorem dX11_law_4 : decode cX11_law 4 = .ok (.invokestatic 144, 3) := by decide +kernel
theorem dX11_law_7 : decode cX11_law 7 = .ok (.ifCond .eq 23, 3) := by decide +kernel
theorem dX11_law_10 : decode cX11_law 10 = .ok (.iload_n 2, 1) := by decide +kernel
theorem dX11_law_11 : decode cX11_law 11 = .ok (.i2l, 1) := by decide +kernel
theorem dX11_law_12 : decode cX11_law 12 = .ok (.lconst 0, 1) := by decide +kernel
theorem dX11_law_13 : decode cX11_law 13 = .ok (.iload_n 1, 1) := by decide +kernel
theorem dX11_law_14 : decode cX11_law 14 = .ok (.ifCond .ne 9, 3) := by decide +kernel
theorem dX11_law_17 : decode cX11_law 17 = .ok (.ldc2_w 262, 3) := by decide +kernel
theorem dX11_law_20 : decode cX11_law 20 = .ok (.goto 4, 3) := by decide +kernel
theorem dX11_law_23 : decode cX11_law 23 = .ok (.lconst 1, 1) := by decide +kernel
theorem dX11_law_24 : decode cX11_law 24 = .ok (.invokestatic 144, 3) := by decide +kernel
theorem dX11_law_27 : decode cX11_law 27 = .ok (.ifCond .ne 7, 3) := by decide +kernel
theorem dX11_law_30 : decode cX11_law 30 = .ok (.sipush (-1002), 3) := by decide +kernel
theorem dX11_law_33 : decode cX11_law 33 = .ok (.ireturn, 1) := by decide +kernel
theorem dX11_law_34 : decode cX11_law 34 = .ok (.iload_n 1, 1) := by decide +kernel
theorem dX11_law_35 : decode cX11_law 35 = .ok (.ifCond .ne 10, 3) := by decide +kernel
theorem dX11_law_38 : decode cX11_law 38 = .ok (.aload_n 0, 1) := by decide +kernel
theorem dX11_law_39 : decode cX11_law 39 = .ok (.getfield 264, 3) := by decide +kernel
theorem dX11_law_42 : decode cX11_law 42 = .ok (.goto 15, 3) := by decide +kernel
theorem dX11_law_45 : decode cX11_law 45 = .ok (.aload_n 0, 1) := by decide +kernel
theorem dX11_law_46 : decode cX11_law 46 = .ok (.getfield 267, 3) := by decide +kernel
theorem dX11_law_49 : decode cX11_law 49 = .ok (.ifCond .eq 7, 3) := by decide +kernel
theorem dX11_law_52 : decode cX11_law 52 = .ok (.iconst 1, 1) := by decide +kernel
theorem dX11_law_53 : decode cX11_law 53 = .ok (.goto 4, 3) := by decide +kernel
theorem dX11_law_56 : decode cX11_law 56 = .ok (.iconst 0, 1) := by decide +kernel
theorem dX11_law_57 : decode cX11_law 57 = .ok (.istore_n 3, 1) := by decide +kernel
theorem dX11_law_58 : decode cX11_law 58 = .ok (.aload_n 0, 1) := by decide +kernel
theorem dX11_law_59 : decode cX11_law 59 = .ok (.iload_n 1, 1) := by decide +kernel
theorem dX11_law_60 : decode cX11_law 60 = .ok (.ifCond .ne 7, 3) := by decide +kernel
theorem dX11_law_63 : decode cX11_law 63 = .ok (.iload_n 2, 1) := by decide +kernel
theorem dX11_law_64 : decode cX11_law 64 = .ok (.goto 7, 3) := by decide +kernel
theorem dX11_law_67 : decode cX11_law 67 = .ok (.aload_n 0, 1) := by decide +kernel
theorem dX11_law_68 : decode cX11_law 68 = .ok (.getfield 264, 3) := by decide +kernel
theorem dX11_law_71 : decode cX11_law 71 = .ok (.putfield 264, 3) := by decide +kernel
theorem dX11_law_74 : decode cX11_law 74 = .ok (.aload_n 0, 1) := by decide +kernel
theorem dX11_law_75 : decode cX11_law 75 = .ok (.iload_n 1, 1) := by decide +kernel
theorem dX11_law_76 : decode cX11_law 76 = .ok (.iconst 1, 1) := by decide +kernel
theorem dX11_law_77 : decode cX11_law 77 = .ok (.if_icmp .ne 16, 3) := by decide +kernel
theorem dX11_law_80 : decode cX11_law 80 = .ok (.iload_n 2, 1) := by decide +kernel
theorem dX11_law_81 : decode cX11_law 81 = .ok (.iconst 1, 1) := by decide +kernel
theorem dX11_law_82 : decode cX11_law 82 = .ok (.if_icmp .ne 7, 3) := by decide +kernel
theorem dX11_law_85 : decode cX11_law 85 = .ok (.iconst 1, 1) := by decide +kernel
theorem dX11_law_86 : decode cX11_law 86 = .ok (.goto 11, 3) := by decide +kernel
theorem dX11_law_89 : decode cX11_law 89 = .ok (.iconst 0, 1) := by decide +kernel
theorem dX11_law_90 : decode cX11_law 90 = .ok (.goto 7, 3) := by decide +kernel
theorem dX11_law_93 : decode cX11_law 93 = .ok (.aload_n 0, 1) := by decide +kernel
theorem dX11_law_94 : decode cX11_law 94 = .ok (.getfield 267, 3) := by decide +kernel
theorem dX11_law_97 : decode cX11_law 97 = .ok (.putfield 267, 3) := by decide +kernel
theorem dX11_law_100 : decode cX11_law 100 = .ok (.iconst 0, 1) := by decide +kernel
theorem dX11_law_101 : decode cX11_law 101 = .ok (.istore 4, 2) := by decide +kernel
theorem dX11_law_103 : decode cX11_law 103 = .ok (.iload 4, 2) := by decide +kernel
theorem dX11_law_105 : decode cX11_law 105 = .ok (.aload_n 0, 1) := by decide +kernel
theorem dX11_law_106 : decode cX11_law 106 = .ok (.getfield 148, 3) := by decide +kernel
theorem dX11_law_109 : decode cX11_law 109 = .ok (.if_icmp .ge 60, 3) := by decide +kernel
theorem dX11_law_112 : decode cX11_law 112 = .ok (.iload_n 1, 1) := by decide +kernel
theorem dX11_law_113 : decode cX11_law 113 = .ok (.iconst 1, 1) := by decide +kernel
theorem dX11_law_114 : decode cX11_law 114 = .ok (.if_icmp .ne 55, 3) := by decide +kernel
theorem dX11_law_117 : decode cX11_law 117 = .ok (.iload_n 2, 1) := by decide +kernel
theorem dX11_law_118 : decode cX11_law 118 = .ok (.ifCond .ne 51, 3) := by decide +kernel
theorem dX11_law_121 : decode cX11_law 121 = .ok (.aload_n 0, 1) := by decide +kernel
theorem dX11_law_122 : decode cX11_law 122 = .ok (.getfield 31, 3) := by decide +kernel
theorem dX11_law_125 : decode cX11_law 125 = .ok (.iload 4, 2) := by decide +kernel
theorem dX11_law_127 : decode cX11_law 127 = .ok (.aload_n 0, 1) := by decide +kernel
theorem dX11_law_128 : decode cX11_law 128 = .ok (.getfield 31, 3) := by decide +kernel
theorem dX11_law_131 : decode cX11_law 131 = .ok (.iload 4, 2) := by decide +kernel
theorem dX11_law_133 : decode cX11_law 133 = .ok (.iaload, 1) := by decide +kernel
theorem dX11_law_134 : decode cX11_law 134 = .ok (.invokestatic 271, 3) := by decide +kernel
theorem dX11_law_137 : decode cX11_law 137 = .ok (.aload_n 0, 1) := by decide +kernel
theorem dX11_law_138 : decode cX11_law 138 = .ok (.getfield 31, 3) := by decide +kernel
theorem dX11_law_141 : decode cX11_law 141 = .ok (.iload 4, 2) := by decide +kernel
theorem dX11_law_143 : decode cX11_law 143 = .ok (.iaload, 1) := by decide +kernel
theorem dX11_law_144 : decode cX11_law 144 = .ok (.invokestatic 274, 3) := by decide +kernel
theorem dX11_law_147 : decode cX11_law 147 = .ok (.aload_n 0, 1) := by decide +kernel
theorem dX11_law_148 : decode cX11_law 148 = .ok (.getfield 31, 3) := by decide +kernel
theorem dX11_law_151 : decode cX11_law 151 = .ok (.iload 4, 2) := by decide +kernel
theorem dX11_law_153 : decode cX11_law 153 = .ok (.iaload, 1) := by decide +kernel
theorem dX11_law_154 : decode cX11_law 154 = .ok (.invokestatic 277, 3) := by decide +kernel
theorem dX11_law_157 : decode cX11_law 157 = .ok (.iconst (-1), 1) := by decide +kernel
theorem dX11_law_158 : decode cX11_law 158 = .ok (.iconst (-1), 1) := by decide +kernel
theorem dX11_law_159 : decode cX11_law 159 = .ok (.invokestatic 280, 3) := by decide +kernel
theorem dX11_law_162 : decode cX11_law 162 = .ok (.iastore, 1) := by decide +kernel
theorem dX11_law_163 : decode cX11_law 163 = .ok (.iinc 4 1, 3) := by decide +kernel
theorem dX11_law_166 : decode cX11_law 166 = .ok (.goto (-63), 3) := by decide +kernel
theorem dX11_law_169 : decode cX11_law 169 = .ok (.iload_n 3, 1) := by decide +kernel
theorem dX11_law_170 : decode cX11_law 170 = .ok (.ireturn, 1) := by decide +kernel
theorem dX11_grudgeOf_0 : decode cX11_grudgeOf 0 = .ok (.iconst (-1), 1) := by decide +kernel
theorem dX11_grudgeOf_1 : decode cX11_grudgeOf 1 = .ok (.istore_n 3, 1) := by decide +kernel
theorem dX11_grudgeOf_2 : decode cX11_grudgeOf 2 = .ok (.iconst 0, 1) := by decide +kernel
theorem dX11_grudgeOf_3 : decode cX11_grudgeOf 3 = .ok (.istore 4, 2) := by decide +kernel
theorem dX11_grudgeOf_5 : decode cX11_grudgeOf 5 = .ok (.iload 4, 2) := by decide +kernel
theorem dX11_grudgeOf_7 : decode cX11_grudgeOf 7 = .ok (.aload_n 0, 1) := by decide +kernel
theorem dX11_grudgeOf_8 : decode cX11_grudgeOf 8 = .ok (.getfield 243, 3) := by decide +kernel
theorem dX11_grudgeOf_11 : decode cX11_grudgeOf 11 = .ok (.if_icmp .ge 48, 3) := by decide +kernel
theorem dX11_grudgeOf_14 : decode cX11_grudgeOf 14 = .ok (.aload_n 0, 1) := by decide +kernel
theorem dX11_grudgeOf_15 : decode cX11_grudgeOf 15 = .ok (.getfield 22, 3) := by decide +kernel
theorem dX11_grudgeOf_18 : decode cX11_grudgeOf 18 = .ok (.iload 4, 2) := by decide +kernel
theorem dX11_grudgeOf_20 : decode cX11_grudgeOf 20 = .ok (.iaload, 1) := by decide +kernel
theorem dX11_grudgeOf_21 : decode cX11_grudgeOf 21 = .ok (.bipush 100, 2) := by decide +kernel
theorem dX11_grudgeOf_23 : decode cX11_grudgeOf 23 = .ok (.iload_n 1, 1) := by decide +kernel
theorem dX11_grudgeOf_24 : decode cX11_grudgeOf 24 = .ok (.imul, 1) := by decide +kernel
theorem dX11_grudgeOf_25 : decode cX11_grudgeOf 25 = .ok (.iload_n 2, 1) := by decide +kernel
theorem dX11_grudgeOf_26 : decode cX11_grudgeOf 26 = .ok (.iadd, 1) := by decide +kernel
theorem dX11_grudgeOf_27 : decode cX11_grudgeOf 27 = .ok (.if_icmp .eq 19, 3) := by decide +kernel
theorem dX11_grudgeOf_30 : decode cX11_grudgeOf 30 = .ok (.aload_n 0, 1) := by decide +kernel
theorem dX11_grudgeOf_31 : decode cX11_grudgeOf 31 = .ok (.getfield 22, 3) := by decide +kernel
theorem dX11_grudgeOf_34 : decode cX11_grudgeOf 34 = .ok (.iload 4, 2) := by decide +kernel
theorem dX11_grudgeOf_36 : decode cX11_grudgeOf 36 = .ok (.iaload, 1) := by decide +kernel
theorem dX11_grudgeOf_37 : decode cX11_grudgeOf 37 = .ok (.bipush 100, 2) := by decide +kernel
theorem dX11_grudgeOf_39 : decode cX11_grudgeOf 39 = .ok (.iload_n 2, 1) := by decide +kernel
theorem dX11_grudgeOf_40 : decode cX11_grudgeOf 40 = .ok (.imul, 1) := by decide +kernel
theorem dX11_grudgeOf_41 : decode cX11_grudgeOf 41 = .ok (.iload_n 1, 1) := by decide +kernel
theorem dX11_grudgeOf_42 : decode cX11_grudgeOf 42 = .ok (.iadd, 1) := by decide +kernel
theorem dX11_grudgeOf_43 : decode cX11_grudgeOf 43 = .ok (.if_icmp .ne 8, 3) := by decide +kernel
theorem dX11_grudgeOf_46 : decode cX11_grudgeOf 46 = .ok (.iload 4, 2) := by decide +kernel
theorem dX11_grudgeOf_48 : decode cX11_grudgeOf 48 = .ok (.goto 4, 3) := by decide +kernel
theorem dX11_grudgeOf_51 : decode cX11_grudgeOf 51 = .ok (.iload_n 3, 1) := by decide +kernel
theorem dX11_grudgeOf_52 : decode cX11_grudgeOf 52 = .ok (.istore_n 3, 1) := by decide +kernel
theorem dX11_grudgeOf_53 : decode cX11_grudgeOf 53 = .ok (.iinc 4 1, 3) := by decide +kernel
theorem dX11_grudgeOf_56 : decode cX11_grudgeOf 56 = .ok (.goto (-51), 3) := by decide +kernel
theorem dX11_grudgeOf_59 : decode cX11_grudgeOf 59 = .ok (.iload_n 3, 1) := by decide +kernel
theorem dX11_grudgeOf_60 : decode cX11_grudgeOf 60 = .ok (.ireturn, 1) := by decide +kernel
theorem dX11_bear_0 : decode cX11_bear 0 = .ok (.aload_n 0, 1) := by decide +kernel
theorem dX11_bear_1 : decode cX11_bear 1 = .ok (.iload_n 1, 1) := by decide +kernel
theorem dX11_bear_2 : decode cX11_bear 2 = .ok (.invokevirtual 255, 3) := by decide +kernel
theorem dX11_bear_5 : decode cX11_bear 5 = .ok (.ifCond .eq 16, 3) := by decide +kernel
theorem dX11_bear_8 : decode cX11_bear 8 = .ok (.aload_n 0, 1) := by decide +kernel
theorem dX11_bear_9 : decode cX11_bear 9 = .ok (.iload_n 2, 1) := by decide +kernel
theorem dX11_bear_10 : decode cX11_bear 10 = .ok (.invokevirtual 255, 3) := by decide +kernel
theorem dX11_bear_13 : decode cX11_bear 13 = .ok (.ifCond .eq 8, 3) := by decide +kernel
theorem dX11_bear_16 : decode cX11_bear 16 = .ok (.iload_n 1, 1) := by decide +kernel
theorem dX11_bear_17 : decode cX11_bear 17 = .ok (.iload_n 2, 1) := by decide +kernel
theorem dX11_bear_18 : decode cX11_bear 18 = .ok (.if_icmp .ne 7, 3) := by decide +kernel
theorem dX11_bear_21 : decode cX11_bear 21 = .ok (.sipush (-1001), 3) := by decide +kernel
theorem dX11_bear_24 : decode cX11_bear 24 = .ok (.ireturn, 1) := by decide +kernel
theorem dX11_bear_25 : decode cX11_bear 25 = .ok (.aload_n 0, 1) := by decide +kernel
theorem dX11_bear_26 : decode cX11_bear 26 = .ok (.iload_n 1, 1) := by decide +kernel
theorem dX11_bear_27 : decode cX11_bear 27 = .ok (.iload_n 2, 1) := by decide +kernel
theorem dX11_bear_28 : decode cX11_bear 28 = .ok (.invokevirtual 284, 3) := by decide +kernel
theorem dX11_bear_31 : decode cX11_bear 31 = .ok (.istore 4, 2) := by decide +kernel
theorem dX11_bear_33 : decode cX11_bear 33 = .ok (.iload 4, 2) := by decide +kernel
theorem dX11_bear_35 : decode cX11_bear 35 = .ok (.ifCond .lt 7, 3) := by decide +kernel
theorem dX11_bear_38 : decode cX11_bear 38 = .ok (.iconst 1, 1) := by decide +kernel
theorem dX11_bear_39 : decode cX11_bear 39 = .ok (.goto 4, 3) := by decide +kernel
theorem dX11_bear_42 : decode cX11_bear 42 = .ok (.iconst 0, 1) := by decide +kernel
theorem dX11_bear_43 : decode cX11_bear 43 = .ok (.iload_n 3, 1) := by decide +kernel
theorem dX11_bear_44 : decode cX11_bear 44 = .ok (.if_icmp .ne 7, 3) := by decide +kernel
theorem dX11_bear_47 : decode cX11_bear 47 = .ok (.sipush (-1003), 3) := by decide +kernel
theorem dX11_bear_50 : decode cX11_bear 50 = .ok (.ireturn, 1) := by decide +kernel
theorem dX11_bear_51 : decode cX11_bear 51 = .ok (.iload_n 3, 1) := by decide +kernel
theorem dX11_bear_52 : decode cX11_bear 52 = .ok (.ifCond .eq 31, 3) := by decide +kernel
theorem dX11_bear_55 : decode cX11_bear 55 = .ok (.aload_n 0, 1) := by decide +kernel
theorem dX11_bear_56 : decode cX11_bear 56 = .ok (.getfield 22, 3) := by decide +kernel
theorem dX11_bear_59 : decode cX11_bear 59 = .ok (.aload_n 0, 1) := by decide +kernel
theorem dX11_bear_60 : decode cX11_bear 60 = .ok (.getfield 243, 3) := by decide +kernel
theorem dX11_bear_63 : decode cX11_bear 63 = .ok (.bipush 100, 2) := by decide +kernel
theorem dX11_bear_65 : decode cX11_bear 65 = .ok (.iload_n 1, 1) := by decide +kernel
theorem dX11_bear_66 : decode cX11_bear 66 = .ok (.imul, 1) := by decide +kernel
theorem dX11_bear_67 : decode cX11_bear 67 = .ok (.iload_n 2, 1) := by decide +kernel
theorem dX11_bear_68 : decode cX11_bear 68 = .ok (.iadd, 1) := by decide +kernel
theorem dX11_bear_69 : decode cX11_bear 69 = .ok (.iastore, 1) := by decide +kernel
theorem dX11_bear_70 : decode cX11_bear 70 = .ok (.aload_n 0, 1) := by decide +kernel
theorem dX11_bear_71 : decode cX11_bear 71 = .ok (.dup, 1) := by decide +kernel
theorem dX11_bear_72 : decode cX11_bear 72 = .ok (.getfield 243, 3) := by decide +kernel
theorem dX11_bear_75 : decode cX11_bear 75 = .ok (.iconst 1, 1) := by decide +kernel
theorem dX11_bear_76 : decode cX11_bear 76 = .ok (.iadd, 1) := by decide +kernel
theorem dX11_bear_77 : decode cX11_bear 77 = .ok (.putfield 243, 3) := by decide +kernel
theorem dX11_bear_80 : decode cX11_bear 80 = .ok (.goto 29, 3) := by decide +kernel
theorem dX11_bear_83 : decode cX11_bear 83 = .ok (.aload_n 0, 1) := by decide +kernel
theorem dX11_bear_84 : decode cX11_bear 84 = .ok (.dup, 1) := by decide +kernel
theorem dX11_bear_85 : decode cX11_bear 85 = .ok (.getfield 243, 3) := by decide +kernel
theorem dX11_bear_88 : decode cX11_bear 88 = .ok (.iconst 1, 1) := by decide +kernel
theorem dX11_bear_89 : decode cX11_bear 89 = .ok (.isub, 1) := by decide +kernel
theorem dX11_bear_90 : decode cX11_bear 90 = .ok (.putfield 243, 3) := by decide +kernel
theorem dX11_bear_93 : decode cX11_bear 93 = .ok (.aload_n 0, 1) := by decide +kernel
theorem dX11_bear_94 : decode cX11_bear 94 = .ok (.getfield 22, 3) := by decide +kernel
theorem dX11_bear_97 : decode cX11_bear 97 = .ok (.iload 4, 2) := by decide +kernel
theorem dX11_bear_99 : decode cX11_bear 99 = .ok (.aload_n 0, 1) := by decide +kernel
theorem dX11_bear_100 : decode cX11_bear 100 = .ok (.getfield 22, 3) := by decide +kernel
theorem dX11_bear_103 : decode cX11_bear 103 = .ok (.aload_n 0, 1) := by decide +kernel
theorem dX11_bear_104 : decode cX11_bear 104 = .ok (.getfield 243, 3) := by decide +kernel
theorem dX11_bear_107 : decode cX11_bear 107 = .ok (.iaload, 1) := by decide +kernel
theorem dX11_bear_108 : decode cX11_bear 108 = .ok (.iastore, 1) := by decide +kernel
theorem dX11_bear_109 : decode cX11_bear 109 = .ok (.aload_n 0, 1) := by decide +kernel
theorem dX11_bear_110 : decode cX11_bear 110 = .ok (.getfield 243, 3) := by decide +kernel
theorem dX11_bear_113 : decode cX11_bear 113 = .ok (.ireturn, 1) := by decide +kernel
theorem dX11_code_0 : decode cX11_code 0 = .ok (.iload_n 0, 1) := by decide +kernel
theorem dX11_code_1 : decode cX11_code 1 = .ok (.bipush 16, 2) := by decide +kernel
theorem dX11_code_3 : decode cX11_code 3 = .ok (.imul, 1) := by decide +kernel
theorem dX11_code_4 : decode cX11_code 4 = .ok (.iload_n 1, 1) := by decide +kernel
theorem dX11_code_5 : decode cX11_code 5 = .ok (.iadd, 1) := by decide +kernel
theorem dX11_code_6 : decode cX11_code 6 = .ok (.iconst 2, 1) := by decide +kernel
theorem dX11_code_7 : decode cX11_code 7 = .ok (.imul, 1) := by decide +kernel
theorem dX11_code_8 : decode cX11_code 8 = .ok (.iload_n 2, 1) := by decide +kernel
theorem dX11_code_9 : decode cX11_code 9 = .ok (.iadd, 1) := by decide +kernel
theorem dX11_code_10 : decode cX11_code 10 = .ok (.bipush 17, 2) := by decide +kernel
theorem dX11_code_12 : decode cX11_code 12 = .ok (.imul, 1) := by decide +kernel
theorem dX11_code_13 : decode cX11_code 13 = .ok (.iload_n 3, 1) := by decide +kernel
theorem dX11_code_14 : decode cX11_code 14 = .ok (.iadd, 1) := by decide +kernel
theorem dX11_code_15 : decode cX11_code 15 = .ok (.iconst 1, 1) := by decide +kernel
theorem dX11_code_16 : decode cX11_code 16 = .ok (.iadd, 1) := by decide +kernel
theorem dX11_code_17 : decode cX11_code 17 = .ok (.bipush 17, 2) := by decide +kernel
theorem dX11_code_19 : decode cX11_code 19 = .ok (.imul, 1) := by decide +kernel
theorem dX11_code_20 : decode cX11_code 20 = .ok (.iload 4, 2) := by decide +kernel
theorem dX11_code_22 : decode cX11_code 22 = .ok (.iadd, 1) := by decide +kernel
theorem dX11_code_23 : decode cX11_code 23 = .ok (.iconst 1, 1) := by decide +kernel
theorem dX11_code_24 : decode cX11_code 24 = .ok (.iadd, 1) := by decide +kernel
theorem dX11_code_25 : decode cX11_code 25 = .ok (.ireturn, 1) := by decide +kernel
theorem dX11_one_0 : decode cX11_one 0 = .ok (.iload_n 0, 1) := by decide +kernel
theorem dX11_one_1 : decode cX11_one 1 = .ok (.sipush 9248, 3) := by decide +kernel
theorem dX11_one_4 : decode cX11_one 4 = .ok (.idiv, 1) := by decide +kernel
theorem dX11_one_5 : decode cX11_one 5 = .ok (.ireturn, 1) := by decide +kernel
theorem dX11_two_0 : decode cX11_two 0 = .ok (.iload_n 0, 1) := by decide +kernel
theorem dX11_two_1 : decode cX11_two 1 = .ok (.sipush 578, 3) := by decide +kernel
theorem dX11_two_4 : decode cX11_two 4 = .ok (.idiv, 1) := by decide +kernel
theorem dX11_two_5 : decode cX11_two 5 = .ok (.bipush 16, 2) := by decide +kernel
theorem dX11_two_7 : decode cX11_two 7 = .ok (.irem, 1) := by decide +kernel
theorem dX11_two_8 : decode cX11_two 8 = .ok (.ireturn, 1) := by decide +kernel
theorem dX11_side_0 : decode cX11_side 0 = .ok (.iload_n 0, 1) := by decide +kernel
theorem dX11_side_1 : decode cX11_side 1 = .ok (.sipush 289, 3) := by decide +kernel
theorem dX11_side_4 : decode cX11_side 4 = .ok (.idiv, 1) := by decide +kernel
theorem dX11_side_5 : decode cX11_side 5 = .ok (.iconst 2, 1) := by decide +kernel
theorem dX11_side_6 : decode cX11_side 6 = .ok (.irem, 1) := by decide +kernel
theorem dX11_side_7 : decode cX11_side 7 = .ok (.ireturn, 1) := by decide +kernel
theorem dX11_from_0 : decode cX11_from 0 = .ok (.iload_n 1, 1) := by decide +kernel
theorem dX11_from_1 : decode cX11_from 1 = .ok (.ifCond .ne 15, 3) := by decide +kernel
theorem dX11_from_4 : decode cX11_from 4 = .ok (.iload_n 0, 1) := by decide +kernel
theorem dX11_from_5 : decode cX11_from 5 = .ok (.bipush 17, 2) := by decide +kernel
theorem dX11_from_7 : decode cX11_from 7 = .ok (.idiv, 1) := by decide +kernel
theorem dX11_from_8 : decode cX11_from 8 = .ok (.bipush 17, 2) := by decide +kernel
theorem dX11_from_10 : decode cX11_from 10 = .ok (.irem, 1) := by decide +kernel
theorem dX11_from_11 : decode cX11_from 11 = .ok (.iconst 1, 1) := by decide +kernel
theorem dX11_from_12 : decode cX11_from 12 = .ok (.isub, 1) := by decide +kernel
theorem dX11_from_13 : decode cX11_from 13 = .ok (.goto 9, 3) := by decide +kernel
theorem dX11_from_16 : decode cX11_from 16 = .ok (.iload_n 0, 1) := by decide +kernel
theorem dX11_from_17 : decode cX11_from 17 = .ok (.bipush 17, 2) := by decide +kernel
theorem dX11_from_19 : decode cX11_from 19 = .ok (.irem, 1) := by decide +kernel
theorem dX11_from_20 : decode cX11_from 20 = .ok (.iconst 1, 1) := by decide +kernel
theorem dX11_from_21 : decode cX11_from 21 = .ok (.isub, 1) := by decide +kernel
theorem dX11_from_22 : decode cX11_from 22 = .ok (.ireturn, 1) := by decide +kernel
theorem dX11_holder_0 : decode cX11_holder 0 = .ok (.iload_n 1, 1) := by decide +kernel
theorem dX11_holder_1 : decode cX11_holder 1 = .ok (.ifCond .ne 10, 3) := by decide +kernel
theorem dX11_holder_4 : decode cX11_holder 4 = .ok (.iload_n 0, 1) := by decide +kernel
theorem dX11_holder_5 : decode cX11_holder 5 = .ok (.invokestatic 271, 3) := by decide +kernel
theorem dX11_holder_8 : decode cX11_holder 8 = .ok (.goto 7, 3) := by decide +kernel
theorem dX11_holder_11 : decode cX11_holder 11 = .ok (.iload_n 0, 1) := by decide +kernel
theorem dX11_holder_12 : decode cX11_holder 12 = .ok (.invokestatic 274, 3) := by decide +kernel
theorem dX11_holder_15 : decode cX11_holder 15 = .ok (.ireturn, 1) := by decide +kernel
theorem dX11_toldCode_0 : decode cX11_toldCode 0 = .ok (.aload_n 0, 1) := by decide +kernel
theorem dX11_toldCode_1 : decode cX11_toldCode 1 = .ok (.getfield 25, 3) := by decide +kernel
theorem dX11_toldCode_4 : decode cX11_toldCode 4 = .ok (.iload_n 1, 1) := by decide +kernel
theorem dX11_toldCode_5 : decode cX11_toldCode 5 = .ok (.iaload, 1) := by decide +kernel
theorem dX11_toldCode_6 : decode cX11_toldCode 6 = .ok (.aload_n 0, 1) := by decide +kernel
theorem dX11_toldCode_7 : decode cX11_toldCode 7 = .ok (.getfield 28, 3) := by decide +kernel
theorem dX11_toldCode_10 : decode cX11_toldCode 10 = .ok (.iload_n 1, 1) := by decide +kernel
theorem dX11_toldCode_11 : decode cX11_toldCode 11 = .ok (.iaload, 1) := by decide +kernel
theorem dX11_toldCode_12 : decode cX11_toldCode 12 = .ok (.iconst 0, 1) := by decide +kernel
theorem dX11_toldCode_13 : decode cX11_toldCode 13 = .ok (.iconst (-1), 1) := by decide +kernel
theorem dX11_toldCode_14 : decode cX11_toldCode 14 = .ok (.iconst (-1), 1) := by decide +kernel
theorem dX11_toldCode_15 : decode cX11_toldCode 15 = .ok (.invokestatic 280, 3) := by decide +kernel
theorem dX11_toldCode_18 : decode cX11_toldCode 18 = .ok (.ireturn, 1) := by decide +kernel
theorem dX11_owedNow_0 : decode cX11_owedNow 0 = .ok (.aload_n 0, 1) := by decide +kernel
theorem dX11_owedNow_1 : decode cX11_owedNow 1 = .ok (.getfield 62, 3) := by decide +kernel
theorem dX11_owedNow_4 : decode cX11_owedNow 4 = .ok (.ifCond .ge 10, 3) := by decide +kernel
theorem dX11_owedNow_7 : decode cX11_owedNow 7 = .ok (.aload_n 0, 1) := by decide +kernel
theorem dX11_owedNow_8 : decode cX11_owedNow 8 = .ok (.getfield 19, 3) := by decide +kernel
theorem dX11_owedNow_11 : decode cX11_owedNow 11 = .ok (.iload_n 1, 1) := by decide +kernel
theorem dX11_owedNow_12 : decode cX11_owedNow 12 = .ok (.iaload, 1) := by decide +kernel
theorem dX11_owedNow_13 : decode cX11_owedNow 13 = .ok (.ireturn, 1) := by decide +kernel
theorem dX11_owedNow_14 : decode cX11_owedNow 14 = .ok (.iconst 0, 1) := by decide +kernel
theorem dX11_owedNow_15 : decode cX11_owedNow 15 = .ok (.istore_n 2, 1) := by decide +kernel
theorem dX11_owedNow_16 : decode cX11_owedNow 16 = .ok (.iconst 0, 1) := by decide +kernel
theorem dX11_owedNow_17 : decode cX11_owedNow 17 = .ok (.istore_n 3, 1) := by decide +kernel
theorem dX11_owedNow_18 : decode cX11_owedNow 18 = .ok (.iload_n 3, 1) := by decide +kernel
theorem dX11_owedNow_19 : decode cX11_owedNow 19 = .ok (.aload_n 0, 1) := by decide +kernel
theorem dX11_owedNow_20 : decode cX11_owedNow 20 = .ok (.getfield 240, 3) := by decide +kernel
theorem dX11_owedNow_23 : decode cX11_owedNow 23 = .ok (.if_icmp .ge 45, 3) := by decide +kernel
theorem dX11_owedNow_26 : decode cX11_owedNow 26 = .ok (.iload_n 2, 1) := by decide +kernel
theorem dX11_owedNow_27 : decode cX11_owedNow 27 = .ok (.aload_n 0, 1) := by decide +kernel
theorem dX11_owedNow_28 : decode cX11_owedNow 28 = .ok (.getfield 62, 3) := by decide +kernel
theorem dX11_owedNow_31 : decode cX11_owedNow 31 = .ok (.iload_n 3, 1) := by decide +kernel
theorem dX11_owedNow_32 : decode cX11_owedNow 32 = .ok (.invokestatic 287, 3) := by decide +kernel
theorem dX11_owedNow_35 : decode cX11_owedNow 35 = .ok (.ifCond .eq 24, 3) := by decide +kernel
theorem dX11_owedNow_38 : decode cX11_owedNow 38 = .ok (.aload_n 0, 1) := by decide +kernel
theorem dX11_owedNow_39 : decode cX11_owedNow 39 = .ok (.getfield 16, 3) := by decide +kernel
theorem dX11_owedNow_42 : decode cX11_owedNow 42 = .ok (.iload_n 3, 1) := by decide +kernel
theorem dX11_owedNow_43 : decode cX11_owedNow 43 = .ok (.iaload, 1) := by decide +kernel
theorem dX11_owedNow_44 : decode cX11_owedNow 44 = .ok (.iload_n 1, 1) := by decide +kernel
theorem dX11_owedNow_45 : decode cX11_owedNow 45 = .ok (.if_icmp .ne 14, 3) := by decide +kernel
theorem dX11_owedNow_48 : decode cX11_owedNow 48 = .ok (.iconst 1, 1) := by decide +kernel
theorem dX11_owedNow_49 : decode cX11_owedNow 49 = .ok (.aload_n 0, 1) := by decide +kernel
theorem dX11_owedNow_50 : decode cX11_owedNow 50 = .ok (.getfield 13, 3) := by decide +kernel
theorem dX11_owedNow_53 : decode cX11_owedNow 53 = .ok (.iload_n 3, 1) := by decide +kernel
theorem dX11_owedNow_54 : decode cX11_owedNow 54 = .ok (.iaload, 1) := by decide +kernel
theorem dX11_owedNow_55 : decode cX11_owedNow 55 = .ok (.ishl, 1) := by decide +kernel
theorem dX11_owedNow_56 : decode cX11_owedNow 56 = .ok (.goto 4, 3) := by decide +kernel
theorem dX11_owedNow_59 : decode cX11_owedNow 59 = .ok (.iconst 0, 1) := by decide +kernel
theorem dX11_owedNow_60 : decode cX11_owedNow 60 = .ok (.ior, 1) := by decide +kernel
theorem dX11_owedNow_61 : decode cX11_owedNow 61 = .ok (.istore_n 2, 1) := by decide +kernel
theorem dX11_owedNow_62 : decode cX11_owedNow 62 = .ok (.iinc 3 1, 3) := by decide +kernel
theorem dX11_owedNow_65 : decode cX11_owedNow 65 = .ok (.goto (-47), 3) := by decide +kernel
theorem dX11_owedNow_68 : decode cX11_owedNow 68 = .ok (.iload_n 2, 1) := by decide +kernel
theorem dX11_owedNow_69 : decode cX11_owedNow 69 = .ok (.ireturn, 1) := by decide +kernel
theorem dX11_isLawful_0 : decode cX11_isLawful 0 = .ok (.aload_n 0, 1) := by decide +kernel
theorem dX11_isLawful_1 : decode cX11_isLawful 1 = .ok (.getfield 7, 3) := by decide +kernel
theorem dX11_isLawful_4 : decode cX11_isLawful 4 = .ok (.iload_n 2, 1) := by decide +kernel
theorem dX11_isLawful_5 : decode cX11_isLawful 5 = .ok (.iaload, 1) := by decide +kernel
theorem dX11_isLawful_6 : decode cX11_isLawful 6 = .ok (.aload_n 0, 1) := by decide +kernel
theorem dX11_isLawful_7 : decode cX11_isLawful 7 = .ok (.getfield 7, 3) := by decide +kernel
theorem dX11_isLawful_10 : decode cX11_isLawful 10 = .ok (.iload_n 1, 1) := by decide +kernel
theorem dX11_isLawful_11 : decode cX11_isLawful 11 = .ok (.iaload, 1) := by decide +kernel
theorem dX11_isLawful_12 : decode cX11_isLawful 12 = .ok (.isub, 1) := by decide +kernel
theorem dX11_isLawful_13 : decode cX11_isLawful 13 = .ok (.istore_n 3, 1) := by decide +kernel
theorem dX11_isLawful_14 : decode cX11_isLawful 14 = .ok (.aload_n 0, 1) := by decide +kernel
theorem dX11_isLawful_15 : decode cX11_isLawful 15 = .ok (.getfield 264, 3) := by decide +kernel
theorem dX11_isLawful_18 : decode cX11_isLawful 18 = .ok (.ifCond .ne 16, 3) := by decide +kernel
theorem dX11_isLawful_21 : decode cX11_isLawful 21 = .ok (.iload_n 3, 1) := by decide +kernel
theorem dX11_isLawful_22 : decode cX11_isLawful 22 = .ok (.iconst (-1), 1) := by decide +kernel
theorem dX11_isLawful_23 : decode cX11_isLawful 23 = .ok (.if_icmp .ne 7, 3) := by decide +kernel
theorem dX11_isLawful_26 : decode cX11_isLawful 26 = .ok (.iconst 1, 1) := by decide +kernel
theorem dX11_isLawful_27 : decode cX11_isLawful 27 = .ok (.goto 45, 3) := by decide +kernel
theorem dX11_isLawful_30 : decode cX11_isLawful 30 = .ok (.iconst 0, 1) := by decide +kernel
theorem dX11_isLawful_31 : decode cX11_isLawful 31 = .ok (.goto 41, 3) := by decide +kernel
theorem dX11_isLawful_34 : decode cX11_isLawful 34 = .ok (.aload_n 0, 1) := by decide +kernel
theorem dX11_isLawful_35 : decode cX11_isLawful 35 = .ok (.getfield 264, 3) := by decide +kernel
theorem dX11_isLawful_38 : decode cX11_isLawful 38 = .ok (.iconst 1, 1) := by decide +kernel
theorem dX11_isLawful_39 : decode cX11_isLawful 39 = .ok (.if_icmp .ne 15, 3) := by decide +kernel
theorem dX11_isLawful_42 : decode cX11_isLawful 42 = .ok (.iload_n 3, 1) := by decide +kernel
theorem dX11_isLawful_43 : decode cX11_isLawful 43 = .ok (.ifCond .ge 7, 3) := by decide +kernel
theorem dX11_isLawful_46 : decode cX11_isLawful 46 = .ok (.iconst 1, 1) := by decide +kernel
theorem dX11_isLawful_47 : decode cX11_isLawful 47 = .ok (.goto 25, 3) := by decide +kernel
theorem dX11_isLawful_50 : decode cX11_isLawful 50 = .ok (.iconst 0, 1) := by decide +kernel
theorem dX11_isLawful_51 : decode cX11_isLawful 51 = .ok (.goto 21, 3) := by decide +kernel
theorem dX11_isLawful_54 : decode cX11_isLawful 54 = .ok (.aload_n 0, 1) := by decide +kernel
theorem dX11_isLawful_55 : decode cX11_isLawful 55 = .ok (.getfield 264, 3) := by decide +kernel
theorem dX11_isLawful_58 : decode cX11_isLawful 58 = .ok (.iconst 2, 1) := by decide +kernel
theorem dX11_isLawful_59 : decode cX11_isLawful 59 = .ok (.if_icmp .eq 8, 3) := by decide +kernel
theorem dX11_isLawful_62 : decode cX11_isLawful 62 = .ok (.iload_n 3, 1) := by decide +kernel
theorem dX11_isLawful_63 : decode cX11_isLawful 63 = .ok (.iconst 1, 1) := by decide +kernel
theorem dX11_isLawful_64 : decode cX11_isLawful 64 = .ok (.if_icmp .ne 7, 3) := by decide +kernel
theorem dX11_isLawful_67 : decode cX11_isLawful 67 = .ok (.iconst 1, 1) := by decide +kernel
theorem dX11_isLawful_68 : decode cX11_isLawful 68 = .ok (.goto 4, 3) := by decide +kernel
theorem dX11_isLawful_71 : decode cX11_isLawful 71 = .ok (.iconst 0, 1) := by decide +kernel
theorem dX11_isLawful_72 : decode cX11_isLawful 72 = .ok (.ireturn, 1) := by decide +kernel
theorem dX11_mayOf_0 : decode cX11_mayOf 0 = .ok (.iload_n 1, 1) := by decide +kernel
theorem dX11_mayOf_1 : decode cX11_mayOf 1 = .ok (.iload_n 2, 1) := by decide +kernel
theorem dX11_mayOf_2 : decode cX11_mayOf 2 = .ok (.invokestatic 291, 3) := by decide +kernel
theorem dX11_mayOf_5 : decode cX11_mayOf 5 = .ok (.istore_n 3, 1) := by decide +kernel
theorem dX11_mayOf_6 : decode cX11_mayOf 6 = .ok (.aload_n 0, 1) := by decide +kernel
theorem dX11_mayOf_7 : decode cX11_mayOf 7 = .ok (.iload_n 3, 1) := by decide +kernel
theorem dX11_mayOf_8 : decode cX11_mayOf 8 = .ok (.invokevirtual 294, 3) := by decide +kernel
theorem dX11_mayOf_11 : decode cX11_mayOf 11 = .ok (.istore 4, 2) := by decide +kernel
theorem dX11_mayOf_13 : decode cX11_mayOf 13 = .ok (.iconst 0, 1) := by decide +kernel
theorem dX11_mayOf_14 : decode cX11_mayOf 14 = .ok (.istore 5, 2) := by decide +kernel
theorem dX11_mayOf_16 : decode cX11_mayOf 16 = .ok (.iconst 0, 1) := by decide +kernel
theorem dX11_mayOf_17 : decode cX11_mayOf 17 = .ok (.istore 6, 2) := by decide +kernel
theorem dX11_mayOf_19 : decode cX11_mayOf 19 = .ok (.iload 6, 2) := by decide +kernel
theorem dX11_mayOf_21 : decode cX11_mayOf 21 = .ok (.aload_n 0, 1) := by decide +kernel
theorem dX11_mayOf_22 : decode cX11_mayOf 22 = .ok (.getfield 141, 3) := by decide +kernel
theorem dX11_mayOf_25 : decode cX11_mayOf 25 = .ok (.if_icmp .ge 83, 3) := by decide +kernel
theorem dX11_mayOf_28 : decode cX11_mayOf 28 = .ok (.iload 4, 2) := by decide +kernel
theorem dX11_mayOf_30 : decode cX11_mayOf 30 = .ok (.iload 6, 2) := by decide +kernel
theorem dX11_mayOf_32 : decode cX11_mayOf 32 = .ok (.invokestatic 287, 3) := by decide +kernel
theorem dX11_mayOf_35 : decode cX11_mayOf 35 = .ok (.ifCond .eq 46, 3) := by decide +kernel
theorem dX11_mayOf_38 : decode cX11_mayOf 38 = .ok (.aload_n 0, 1) := by decide +kernel
theorem dX11_mayOf_39 : decode cX11_mayOf 39 = .ok (.iload_n 3, 1) := by decide +kernel
theorem dX11_mayOf_40 : decode cX11_mayOf 40 = .ok (.iload 6, 2) := by decide +kernel
theorem dX11_mayOf_42 : decode cX11_mayOf 42 = .ok (.invokevirtual 297, 3) := by decide +kernel
theorem dX11_mayOf_45 : decode cX11_mayOf 45 = .ok (.ifCond .eq 36, 3) := by decide +kernel
theorem dX11_mayOf_48 : decode cX11_mayOf 48 = .ok (.iload 6, 2) := by decide +kernel
theorem dX11_mayOf_50 : decode cX11_mayOf 50 = .ok (.iload_n 1, 1) := by decide +kernel
theorem dX11_mayOf_51 : decode cX11_mayOf 51 = .ok (.iconst 1, 1) := by decide +kernel
theorem dX11_mayOf_52 : decode cX11_mayOf 52 = .ok (.iload_n 2, 1) := by decide +kernel
theorem dX11_mayOf_53 : decode cX11_mayOf 53 = .ok (.isub, 1) := by decide +kernel
theorem dX11_mayOf_54 : decode cX11_mayOf 54 = .ok (.invokestatic 291, 3) := by decide +kernel
theorem dX11_mayOf_57 : decode cX11_mayOf 57 = .ok (.if_icmp .eq 24, 3) := by decide +kernel
theorem dX11_mayOf_60 : decode cX11_mayOf 60 = .ok (.aload_n 0, 1) := by decide +kernel
theorem dX11_mayOf_61 : decode cX11_mayOf 61 = .ok (.getfield 267, 3) := by decide +kernel
theorem dX11_mayOf_64 : decode cX11_mayOf 64 = .ok (.ifCond .eq 13, 3) := by decide +kernel
theorem dX11_mayOf_67 : decode cX11_mayOf 67 = .ok (.iload_n 1, 1) := by decide +kernel
theorem dX11_mayOf_68 : decode cX11_mayOf 68 = .ok (.iload_n 2, 1) := by decide +kernel
theorem dX11_mayOf_69 : decode cX11_mayOf 69 = .ok (.invokestatic 300, 3) := by decide +kernel
theorem dX11_mayOf_72 : decode cX11_mayOf 72 = .ok (.iload 6, 2) := by decide +kernel
theorem dX11_mayOf_74 : decode cX11_mayOf 74 = .ok (.if_icmp .eq 7, 3) := by decide +kernel
theorem dX11_mayOf_77 : decode cX11_mayOf 77 = .ok (.iconst 1, 1) := by decide +kernel
theorem dX11_mayOf_78 : decode cX11_mayOf 78 = .ok (.goto 4, 3) := by decide +kernel
theorem dX11_mayOf_81 : decode cX11_mayOf 81 = .ok (.iconst 0, 1) := by decide +kernel
theorem dX11_mayOf_82 : decode cX11_mayOf 82 = .ok (.istore 7, 2) := by decide +kernel
theorem dX11_mayOf_84 : decode cX11_mayOf 84 = .ok (.iload 5, 2) := by decide +kernel
theorem dX11_mayOf_86 : decode cX11_mayOf 86 = .ok (.iload 7, 2) := by decide +kernel
theorem dX11_mayOf_88 : decode cX11_mayOf 88 = .ok (.ifCond .eq 10, 3) := by decide +kernel
theorem dX11_mayOf_91 : decode cX11_mayOf 91 = .ok (.iconst 1, 1) := by decide +kernel
theorem dX11_mayOf_92 : decode cX11_mayOf 92 = .ok (.iload 6, 2) := by decide +kernel
theorem dX11_mayOf_94 : decode cX11_mayOf 94 = .ok (.ishl, 1) := by decide +kernel
theorem dX11_mayOf_95 : decode cX11_mayOf 95 = .ok (.goto 4, 3) := by decide +kernel
theorem dX11_mayOf_98 : decode cX11_mayOf 98 = .ok (.iconst 0, 1) := by decide +kernel
theorem dX11_mayOf_99 : decode cX11_mayOf 99 = .ok (.ior, 1) := by decide +kernel
theorem dX11_mayOf_100 : decode cX11_mayOf 100 = .ok (.istore 5, 2) := by decide +kernel
theorem dX11_mayOf_102 : decode cX11_mayOf 102 = .ok (.iinc 6 1, 3) := by decide +kernel
theorem dX11_mayOf_105 : decode cX11_mayOf 105 = .ok (.goto (-86), 3) := by decide +kernel
theorem dX11_mayOf_108 : decode cX11_mayOf 108 = .ok (.iload 5, 2) := by decide +kernel
theorem dX11_mayOf_110 : decode cX11_mayOf 110 = .ok (.ireturn, 1) := by decide +kernel
theorem dX11_isEnded_0 : decode cX11_isEnded 0 = .ok (.aload_n 0, 1) := by decide +kernel
theorem dX11_isEnded_1 : decode cX11_isEnded 1 = .ok (.iload_n 1, 1) := by decide +kernel
theorem dX11_isEnded_2 : decode cX11_isEnded 2 = .ok (.invokestatic 271, 3) := by decide +kernel
theorem dX11_isEnded_5 : decode cX11_isEnded 5 = .ok (.iload_n 1, 1) := by decide +kernel
theorem dX11_isEnded_6 : decode cX11_isEnded 6 = .ok (.invokestatic 274, 3) := by decide +kernel
theorem dX11_isEnded_9 : decode cX11_isEnded 9 = .ok (.invokevirtual 284, 3) := by decide +kernel
theorem dX11_isEnded_12 : decode cX11_isEnded 12 = .ok (.ifCond .ge 7, 3) := by decide +kernel
theorem dX11_isEnded_15 : decode cX11_isEnded 15 = .ok (.iconst 1, 1) := by decide +kernel
theorem dX11_isEnded_16 : decode cX11_isEnded 16 = .ok (.goto 4, 3) := by decide +kernel
theorem dX11_isEnded_19 : decode cX11_isEnded 19 = .ok (.iconst 0, 1) := by decide +kernel
theorem dX11_isEnded_20 : decode cX11_isEnded 20 = .ok (.ireturn, 1) := by decide +kernel
theorem dX11_stateOf_0 : decode cX11_stateOf 0 = .ok (.aload_n 0, 1) := by decide +kernel
theorem dX11_stateOf_1 : decode cX11_stateOf 1 = .ok (.iload_n 1, 1) := by decide +kernel
theorem dX11_stateOf_2 : decode cX11_stateOf 2 = .ok (.invokevirtual 303, 3) := by decide +kernel
theorem dX11_stateOf_5 : decode cX11_stateOf 5 = .ok (.ifCond .eq 7, 3) := by decide +kernel
theorem dX11_stateOf_8 : decode cX11_stateOf 8 = .ok (.iconst 1, 1) := by decide +kernel
theorem dX11_stateOf_9 : decode cX11_stateOf 9 = .ok (.goto 26, 3) := by decide +kernel
theorem dX11_stateOf_12 : decode cX11_stateOf 12 = .ok (.aload_n 0, 1) := by decide +kernel
theorem dX11_stateOf_13 : decode cX11_stateOf 13 = .ok (.iload_n 1, 1) := by decide +kernel
theorem dX11_stateOf_14 : decode cX11_stateOf 14 = .ok (.iconst 0, 1) := by decide +kernel
theorem dX11_stateOf_15 : decode cX11_stateOf 15 = .ok (.invokevirtual 306, 3) := by decide +kernel
theorem dX11_stateOf_18 : decode cX11_stateOf 18 = .ok (.ifCond .ne 16, 3) := by decide +kernel
theorem dX11_stateOf_21 : decode cX11_stateOf 21 = .ok (.aload_n 0, 1) := by decide +kernel
theorem dX11_stateOf_22 : decode cX11_stateOf 22 = .ok (.iload_n 1, 1) := by decide +kernel
theorem dX11_stateOf_23 : decode cX11_stateOf 23 = .ok (.iconst 1, 1) := by decide +kernel
theorem dX11_stateOf_24 : decode cX11_stateOf 24 = .ok (.invokevirtual 306, 3) := by decide +kernel
theorem dX11_stateOf_27 : decode cX11_stateOf 27 = .ok (.ifCond .ne 7, 3) := by decide +kernel
theorem dX11_stateOf_30 : decode cX11_stateOf 30 = .ok (.iconst 2, 1) := by decide +kernel
theorem dX11_stateOf_31 : decode cX11_stateOf 31 = .ok (.goto 4, 3) := by decide +kernel
theorem dX11_stateOf_34 : decode cX11_stateOf 34 = .ok (.iconst 0, 1) := by decide +kernel
theorem dX11_stateOf_35 : decode cX11_stateOf 35 = .ok (.ireturn, 1) := by decide +kernel
theorem dX11_behind_0 : decode cX11_behind 0 = .ok (.iload_n 1, 1) := by decide +kernel
theorem dX11_behind_1 : decode cX11_behind 1 = .ok (.invokestatic 277, 3) := by decide +kernel
theorem dX11_behind_4 : decode cX11_behind 4 = .ok (.istore_n 3, 1) := by decide +kernel
theorem dX11_behind_5 : decode cX11_behind 5 = .ok (.iload_n 1, 1) := by decide +kernel
theorem dX11_behind_6 : decode cX11_behind 6 = .ok (.invokestatic 271, 3) := by decide +kernel
theorem dX11_behind_9 : decode cX11_behind 9 = .ok (.istore 4, 2) := by decide +kernel
theorem dX11_behind_11 : decode cX11_behind 11 = .ok (.iload_n 1, 1) := by decide +kernel
theorem dX11_behind_12 : decode cX11_behind 12 = .ok (.invokestatic 274, 3) := by decide +kernel
theorem dX11_behind_15 : decode cX11_behind 15 = .ok (.istore 5, 2) := by decide +kernel
theorem dX11_behind_17 : decode cX11_behind 17 = .ok (.iload_n 1, 1) := by decide +kernel
theorem dX11_behind_18 : decode cX11_behind 18 = .ok (.iconst 0, 1) := by decide +kernel
theorem dX11_behind_19 : decode cX11_behind 19 = .ok (.invokestatic 300, 3) := by decide +kernel
theorem dX11_behind_22 : decode cX11_behind 22 = .ok (.istore 6, 2) := by decide +kernel
theorem dX11_behind_24 : decode cX11_behind 24 = .ok (.iload_n 1, 1) := by decide +kernel
theorem dX11_behind_25 : decode cX11_behind 25 = .ok (.iconst 1, 1) := by decide +kernel
theorem dX11_behind_26 : decode cX11_behind 26 = .ok (.invokestatic 300, 3) := by decide +kernel
theorem dX11_behind_29 : decode cX11_behind 29 = .ok (.istore 7, 2) := by decide +kernel
theorem dX11_behind_31 : decode cX11_behind 31 = .ok (.iload_n 2, 1) := by decide +kernel
theorem dX11_behind_32 : decode cX11_behind 32 = .ok (.ifCond .lt 73, 3) := by decide +kernel
theorem dX11_behind_35 : decode cX11_behind 35 = .ok (.aload_n 0, 1) := by decide +kernel
theorem dX11_behind_36 : decode cX11_behind 36 = .ok (.getfield 267, 3) := by decide +kernel
theorem dX11_behind_39 : decode cX11_behind 39 = .ok (.ifCond .eq 11, 3) := by decide +kernel
theorem dX11_behind_42 : decode cX11_behind 42 = .ok (.iload_n 1, 1) := by decide +kernel
theorem dX11_behind_43 : decode cX11_behind 43 = .ok (.iload_n 3, 1) := by decide +kernel
theorem dX11_behind_44 : decode cX11_behind 44 = .ok (.invokestatic 291, 3) := by decide +kernel
theorem dX11_behind_47 : decode cX11_behind 47 = .ok (.goto 4, 3) := by decide +kernel
theorem dX11_behind_50 : decode cX11_behind 50 = .ok (.iconst (-1), 1) := by decide +kernel
theorem dX11_behind_51 : decode cX11_behind 51 = .ok (.istore 8, 2) := by decide +kernel
theorem dX11_behind_53 : decode cX11_behind 53 = .ok (.iload_n 3, 1) := by decide +kernel
theorem dX11_behind_54 : decode cX11_behind 54 = .ok (.ifCond .ne 8, 3) := by decide +kernel
theorem dX11_behind_57 : decode cX11_behind 57 = .ok (.iload 8, 2) := by decide +kernel
theorem dX11_behind_59 : decode cX11_behind 59 = .ok (.goto 5, 3) := by decide +kernel
theorem dX11_behind_62 : decode cX11_behind 62 = .ok (.iload 6, 2) := by decide +kernel
theorem dX11_behind_64 : decode cX11_behind 64 = .ok (.istore 6, 2) := by decide +kernel
theorem dX11_behind_66 : decode cX11_behind 66 = .ok (.iload_n 3, 1) := by decide +kernel
theorem dX11_behind_67 : decode cX11_behind 67 = .ok (.iconst 1, 1) := by decide +kernel
theorem dX11_behind_68 : decode cX11_behind 68 = .ok (.if_icmp .ne 8, 3) := by decide +kernel
theorem dX11_behind_71 : decode cX11_behind 71 = .ok (.iload 8, 2) := by decide +kernel
theorem dX11_behind_73 : decode cX11_behind 73 = .ok (.goto 5, 3) := by decide +kernel
theorem dX11_behind_76 : decode cX11_behind 76 = .ok (.iload 7, 2) := by decide +kernel
theorem dX11_behind_78 : decode cX11_behind 78 = .ok (.istore 7, 2) := by decide +kernel
theorem dX11_behind_80 : decode cX11_behind 80 = .ok (.iload_n 3, 1) := by decide +kernel
theorem dX11_behind_81 : decode cX11_behind 81 = .ok (.ifCond .ne 7, 3) := by decide +kernel
theorem dX11_behind_84 : decode cX11_behind 84 = .ok (.iload_n 2, 1) := by decide +kernel
theorem dX11_behind_85 : decode cX11_behind 85 = .ok (.goto 5, 3) := by decide +kernel
theorem dX11_behind_88 : decode cX11_behind 88 = .ok (.iload 4, 2) := by decide +kernel
theorem dX11_behind_90 : decode cX11_behind 90 = .ok (.istore 4, 2) := by decide +kernel
theorem dX11_behind_92 : decode cX11_behind 92 = .ok (.iload_n 3, 1) := by decide +kernel
theorem dX11_behind_93 : decode cX11_behind 93 = .ok (.iconst 1, 1) := by decide +kernel
theorem dX11_behind_94 : decode cX11_behind 94 = .ok (.if_icmp .ne 7, 3) := by decide +kernel
theorem dX11_behind_97 : decode cX11_behind 97 = .ok (.iload_n 2, 1) := by decide +kernel
theorem dX11_behind_98 : decode cX11_behind 98 = .ok (.goto 5, 3) := by decide +kernel
theorem dX11_behind_101 : decode cX11_behind 101 = .ok (.iload 5, 2) := by decide +kernel
theorem dX11_behind_103 : decode cX11_behind 103 = .ok (.istore 5, 2) := by decide +kernel
theorem dX11_behind_105 : decode cX11_behind 105 = .ok (.iload 4, 2) := by decide +kernel
theorem dX11_behind_107 : decode cX11_behind 107 = .ok (.iload 5, 2) := by decide +kernel
theorem dX11_behind_109 : decode cX11_behind 109 = .ok (.iconst 1, 1) := by decide +kernel
theorem dX11_behind_110 : decode cX11_behind 110 = .ok (.iload_n 3, 1) := by decide +kernel
theorem dX11_behind_111 : decode cX11_behind 111 = .ok (.isub, 1) := by decide +kernel
theorem dX11_behind_112 : decode cX11_behind 112 = .ok (.iload 6, 2) := by decide +kernel
theorem dX11_behind_114 : decode cX11_behind 114 = .ok (.iload 7, 2) := by decide +kernel
theorem dX11_behind_116 : decode cX11_behind 116 = .ok (.invokestatic 280, 3) := by decide +kernel
theorem dX11_behind_119 : decode cX11_behind 119 = .ok (.ireturn, 1) := by decide +kernel
theorem dX11_quarrel_0 : decode cX11_quarrel 0 = .ok (.aload_n 0, 1) := by decide +kernel
theorem dX11_quarrel_1 : decode cX11_quarrel 1 = .ok (.iload_n 1, 1) := by decide +kernel
theorem dX11_quarrel_2 : decode cX11_quarrel 2 = .ok (.invokevirtual 309, 3) := by decide +kernel
theorem dX11_quarrel_5 : decode cX11_quarrel 5 = .ok (.ifCond .ne 7, 3) := by decide +kernel
theorem dX11_quarrel_8 : decode cX11_quarrel 8 = .ok (.sipush (-1001), 3) := by decide +kernel
theorem dX11_quarrel_11 : decode cX11_quarrel 11 = .ok (.ireturn, 1) := by decide +kernel
theorem dX11_quarrel_12 : decode cX11_quarrel 12 = .ok (.iload_n 2, 1) := by decide +kernel
theorem dX11_quarrel_13 : decode cX11_quarrel 13 = .ok (.tableswitch 113 0 6 #[43, 53, 63, 73, 84, 95, 106], 43) := by decide +kernel
theorem dX11_quarrel_56 : decode cX11_quarrel 56 = .ok (.aload_n 0, 1) := by decide +kernel
theorem dX11_quarrel_57 : decode cX11_quarrel 57 = .ok (.getfield 31, 3) := by decide +kernel
theorem dX11_quarrel_60 : decode cX11_quarrel 60 = .ok (.iload_n 1, 1) := by decide +kernel
theorem dX11_quarrel_61 : decode cX11_quarrel 61 = .ok (.iaload, 1) := by decide +kernel
theorem dX11_quarrel_62 : decode cX11_quarrel 62 = .ok (.invokestatic 271, 3) := by decide +kernel
theorem dX11_quarrel_65 : decode cX11_quarrel 65 = .ok (.ireturn, 1) := by decide +kernel
theorem dX11_quarrel_66 : decode cX11_quarrel 66 = .ok (.aload_n 0, 1) := by decide +kernel
theorem dX11_quarrel_67 : decode cX11_quarrel 67 = .ok (.getfield 31, 3) := by decide +kernel
theorem dX11_quarrel_70 : decode cX11_quarrel 70 = .ok (.iload_n 1, 1) := by decide +kernel
theorem dX11_quarrel_71 : decode cX11_quarrel 71 = .ok (.iaload, 1) := by decide +kernel
theorem dX11_quarrel_72 : decode cX11_quarrel 72 = .ok (.invokestatic 274, 3) := by decide +kernel
theorem dX11_quarrel_75 : decode cX11_quarrel 75 = .ok (.ireturn, 1) := by decide +kernel
theorem dX11_quarrel_76 : decode cX11_quarrel 76 = .ok (.aload_n 0, 1) := by decide +kernel
theorem dX11_quarrel_77 : decode cX11_quarrel 77 = .ok (.getfield 31, 3) := by decide +kernel
theorem dX11_quarrel_80 : decode cX11_quarrel 80 = .ok (.iload_n 1, 1) := by decide +kernel
theorem dX11_quarrel_81 : decode cX11_quarrel 81 = .ok (.iaload, 1) := by decide +kernel
theorem dX11_quarrel_82 : decode cX11_quarrel 82 = .ok (.invokestatic 277, 3) := by decide +kernel
theorem dX11_quarrel_85 : decode cX11_quarrel 85 = .ok (.ireturn, 1) := by decide +kernel
theorem dX11_quarrel_86 : decode cX11_quarrel 86 = .ok (.aload_n 0, 1) := by decide +kernel
theorem dX11_quarrel_87 : decode cX11_quarrel 87 = .ok (.getfield 31, 3) := by decide +kernel
theorem dX11_quarrel_90 : decode cX11_quarrel 90 = .ok (.iload_n 1, 1) := by decide +kernel
theorem dX11_quarrel_91 : decode cX11_quarrel 91 = .ok (.iaload, 1) := by decide +kernel
theorem dX11_quarrel_92 : decode cX11_quarrel 92 = .ok (.iconst 0, 1) := by decide +kernel
theorem dX11_quarrel_93 : decode cX11_quarrel 93 = .ok (.invokestatic 300, 3) := by decide +kernel
theorem dX11_quarrel_96 : decode cX11_quarrel 96 = .ok (.ireturn, 1) := by decide +kernel
theorem dX11_quarrel_97 : decode cX11_quarrel 97 = .ok (.aload_n 0, 1) := by decide +kernel
theorem dX11_quarrel_98 : decode cX11_quarrel 98 = .ok (.getfield 31, 3) := by decide +kernel
theorem dX11_quarrel_101 : decode cX11_quarrel 101 = .ok (.iload_n 1, 1) := by decide +kernel
theorem dX11_quarrel_102 : decode cX11_quarrel 102 = .ok (.iaload, 1) := by decide +kernel
theorem dX11_quarrel_103 : decode cX11_quarrel 103 = .ok (.iconst 1, 1) := by decide +kernel
theorem dX11_quarrel_104 : decode cX11_quarrel 104 = .ok (.invokestatic 300, 3) := by decide +kernel
theorem dX11_quarrel_107 : decode cX11_quarrel 107 = .ok (.ireturn, 1) := by decide +kernel
theorem dX11_quarrel_108 : decode cX11_quarrel 108 = .ok (.aload_n 0, 1) := by decide +kernel
theorem dX11_quarrel_109 : decode cX11_quarrel 109 = .ok (.aload_n 0, 1) := by decide +kernel
theorem dX11_quarrel_110 : decode cX11_quarrel 110 = .ok (.getfield 31, 3) := by decide +kernel
theorem dX11_quarrel_113 : decode cX11_quarrel 113 = .ok (.iload_n 1, 1) := by decide +kernel
theorem dX11_quarrel_114 : decode cX11_quarrel 114 = .ok (.iaload, 1) := by decide +kernel
theorem dX11_quarrel_115 : decode cX11_quarrel 115 = .ok (.invokevirtual 312, 3) := by decide +kernel
theorem dX11_quarrel_118 : decode cX11_quarrel 118 = .ok (.ireturn, 1) := by decide +kernel
theorem dX11_quarrel_119 : decode cX11_quarrel 119 = .ok (.aload_n 0, 1) := by decide +kernel
theorem dX11_quarrel_120 : decode cX11_quarrel 120 = .ok (.getfield 34, 3) := by decide +kernel
theorem dX11_quarrel_123 : decode cX11_quarrel 123 = .ok (.iload_n 1, 1) := by decide +kernel
theorem dX11_quarrel_124 : decode cX11_quarrel 124 = .ok (.iaload, 1) := by decide +kernel
theorem dX11_quarrel_125 : decode cX11_quarrel 125 = .ok (.ireturn, 1) := by decide +kernel
theorem dX11_quarrel_126 : decode cX11_quarrel 126 = .ok (.sipush (-1002), 3) := by decide +kernel
theorem dX11_quarrel_129 : decode cX11_quarrel 129 = .ok (.ireturn, 1) := by decide +kernel
theorem dX11_mayNow_0 : decode cX11_mayNow 0 = .ok (.aload_n 0, 1) := by decide +kernel
theorem dX11_mayNow_1 : decode cX11_mayNow 1 = .ok (.iload_n 1, 1) := by decide +kernel
theorem dX11_mayNow_2 : decode cX11_mayNow 2 = .ok (.invokevirtual 312, 3) := by decide +kernel
theorem dX11_mayNow_5 : decode cX11_mayNow 5 = .ok (.ifCond .ne 15, 3) := by decide +kernel
theorem dX11_mayNow_8 : decode cX11_mayNow 8 = .ok (.aload_n 0, 1) := by decide +kernel
theorem dX11_mayNow_9 : decode cX11_mayNow 9 = .ok (.iload_n 1, 1) := by decide +kernel
theorem dX11_mayNow_10 : decode cX11_mayNow 10 = .ok (.iload_n 1, 1) := by decide +kernel
theorem dX11_mayNow_11 : decode cX11_mayNow 11 = .ok (.invokestatic 277, 3) := by decide +kernel
theorem dX11_mayNow_14 : decode cX11_mayNow 14 = .ok (.invokevirtual 306, 3) := by decide +kernel
theorem dX11_mayNow_17 : decode cX11_mayNow 17 = .ok (.goto 4, 3) := by decide +kernel
theorem dX11_mayNow_20 : decode cX11_mayNow 20 = .ok (.iconst 0, 1) := by decide +kernel
theorem dX11_mayNow_21 : decode cX11_mayNow 21 = .ok (.ireturn, 1) := by decide +kernel
theorem dX11_may_0 : decode cX11_may 0 = .ok (.aload_n 0, 1) := by decide +kernel
theorem dX11_may_1 : decode cX11_may 1 = .ok (.iload_n 1, 1) := by decide +kernel
theorem dX11_may_2 : decode cX11_may 2 = .ok (.invokevirtual 309, 3) := by decide +kernel
theorem dX11_may_5 : decode cX11_may 5 = .ok (.ifCond .eq 16, 3) := by decide +kernel
theorem dX11_may_8 : decode cX11_may 8 = .ok (.aload_n 0, 1) := by decide +kernel
theorem dX11_may_9 : decode cX11_may 9 = .ok (.aload_n 0, 1) := by decide +kernel
theorem dX11_may_10 : decode cX11_may 10 = .ok (.getfield 31, 3) := by decide +kernel
theorem dX11_may_13 : decode cX11_may 13 = .ok (.iload_n 1, 1) := by decide +kernel
theorem dX11_may_14 : decode cX11_may 14 = .ok (.iaload, 1) := by decide +kernel
theorem dX11_may_15 : decode cX11_may 15 = .ok (.invokevirtual 315, 3) := by decide +kernel
theorem dX11_may_18 : decode cX11_may 18 = .ok (.goto 6, 3) := by decide +kernel
theorem dX11_may_21 : decode cX11_may 21 = .ok (.sipush (-1001), 3) := by decide +kernel
theorem dX11_may_24 : decode cX11_may 24 = .ok (.ireturn, 1) := by decide +kernel
theorem dX11_draw_0 : decode cX11_draw 0 = .ok (.aload_n 0, 1) := by decide +kernel
theorem dX11_draw_1 : decode cX11_draw 1 = .ok (.aload_n 0, 1) := by decide +kernel
theorem dX11_draw_2 : decode cX11_draw 2 = .ok (.getfield 318, 3) := by decide +kernel
theorem dX11_draw_5 : decode cX11_draw 5 = .ok (.i2l, 1) := by decide +kernel
theorem dX11_draw_6 : decode cX11_draw 6 = .ok (.ldc2_w 321, 3) := by decide +kernel
theorem dX11_draw_9 : decode cX11_draw 9 = .ok (.lmul, 1) := by decide +kernel
theorem dX11_draw_10 : decode cX11_draw 10 = .ok (.ldc2_w 323, 3) := by decide +kernel
theorem dX11_draw_13 : decode cX11_draw 13 = .ok (.ladd, 1) := by decide +kernel
theorem dX11_draw_14 : decode cX11_draw 14 = .ok (.ldc2_w 325, 3) := by decide +kernel
theorem dX11_draw_17 : decode cX11_draw 17 = .ok (.lrem, 1) := by decide +kernel
theorem dX11_draw_18 : decode cX11_draw 18 = .ok (.l2i, 1) := by decide +kernel
theorem dX11_draw_19 : decode cX11_draw 19 = .ok (.putfield 318, 3) := by decide +kernel
theorem dX11_draw_22 : decode cX11_draw 22 = .ok (.aload_n 0, 1) := by decide +kernel
theorem dX11_draw_23 : decode cX11_draw 23 = .ok (.getfield 318, 3) := by decide +kernel
theorem dX11_draw_26 : decode cX11_draw 26 = .ok (.ldc_w 327, 3) := by decide +kernel
theorem dX11_draw_29 : decode cX11_draw 29 = .ok (.idiv, 1) := by decide +kernel
theorem dX11_draw_30 : decode cX11_draw 30 = .ok (.iload_n 1, 1) := by decide +kernel
theorem dX11_draw_31 : decode cX11_draw 31 = .ok (.irem, 1) := by decide +kernel
theorem dX11_draw_32 : decode cX11_draw 32 = .ok (.ireturn, 1) := by decide +kernel
theorem dX11_drawn_0 : decode cX11_drawn 0 = .ok (.aload_n 0, 1) := by decide +kernel
theorem dX11_drawn_1 : decode cX11_drawn 1 = .ok (.iload_n 1, 1) := by decide +kernel
theorem dX11_drawn_2 : decode cX11_drawn 2 = .ok (.invokestatic 328, 3) := by decide +kernel
theorem dX11_drawn_5 : decode cX11_drawn 5 = .ok (.invokevirtual 331, 3) := by decide +kernel
theorem dX11_drawn_8 : decode cX11_drawn 8 = .ok (.istore_n 2, 1) := by decide +kernel
theorem dX11_drawn_9 : decode cX11_drawn 9 = .ok (.iconst 0, 1) := by decide +kernel
theorem dX11_drawn_10 : decode cX11_drawn 10 = .ok (.istore_n 3, 1) := by decide +kernel
theorem dX11_drawn_11 : decode cX11_drawn 11 = .ok (.iload_n 1, 1) := by decide +kernel
theorem dX11_drawn_12 : decode cX11_drawn 12 = .ok (.iload_n 3, 1) := by decide +kernel
theorem dX11_drawn_13 : decode cX11_drawn 13 = .ok (.invokestatic 287, 3) := by decide +kernel
theorem dX11_drawn_16 : decode cX11_drawn 16 = .ok (.ifCond .eq 7, 3) := by decide +kernel
theorem dX11_drawn_19 : decode cX11_drawn 19 = .ok (.iload_n 2, 1) := by decide +kernel
theorem dX11_drawn_20 : decode cX11_drawn 20 = .ok (.ifCond .le 25, 3) := by decide +kernel
theorem dX11_drawn_23 : decode cX11_drawn 23 = .ok (.iload_n 2, 1) := by decide +kernel
theorem dX11_drawn_24 : decode cX11_drawn 24 = .ok (.iload_n 1, 1) := by decide +kernel
theorem dX11_drawn_25 : decode cX11_drawn 25 = .ok (.iload_n 3, 1) := by decide +kernel
theorem dX11_drawn_26 : decode cX11_drawn 26 = .ok (.invokestatic 287, 3) := by decide +kernel
theorem dX11_drawn_29 : decode cX11_drawn 29 = .ok (.ifCond .eq 7, 3) := by decide +kernel
theorem dX11_drawn_32 : decode cX11_drawn 32 = .ok (.iconst 1, 1) := by decide +kernel
theorem dX11_drawn_33 : decode cX11_drawn 33 = .ok (.goto 4, 3) := by decide +kernel
theorem dX11_drawn_36 : decode cX11_drawn 36 = .ok (.iconst 0, 1) := by decide +kernel
theorem dX11_drawn_37 : decode cX11_drawn 37 = .ok (.isub, 1) := by decide +kernel
theorem dX11_drawn_38 : decode cX11_drawn 38 = .ok (.istore_n 2, 1) := by decide +kernel
theorem dX11_drawn_39 : decode cX11_drawn 39 = .ok (.iinc 3 1, 3) := by decide +kernel
theorem dX11_drawn_42 : decode cX11_drawn 42 = .ok (.goto (-31), 3) := by decide +kernel
theorem dX11_drawn_45 : decode cX11_drawn 45 = .ok (.iload_n 3, 1) := by decide +kernel
theorem dX11_drawn_46 : decode cX11_drawn 46 = .ok (.ireturn, 1) := by decide +kernel
theorem dX11_handOn_0 : decode cX11_handOn 0 = .ok (.aload_n 0, 1) := by decide +kernel
theorem dX11_handOn_1 : decode cX11_handOn 1 = .ok (.aload_n 0, 1) := by decide +kernel
theorem dX11_handOn_2 : decode cX11_handOn 2 = .ok (.getfield 31, 3) := by decide +kernel
theorem dX11_handOn_5 : decode cX11_handOn 5 = .ok (.iload_n 1, 1) := by decide +kernel
theorem dX11_handOn_6 : decode cX11_handOn 6 = .ok (.iaload, 1) := by decide +kernel
theorem dX11_handOn_7 : decode cX11_handOn 7 = .ok (.invokevirtual 315, 3) := by decide +kernel
theorem dX11_handOn_10 : decode cX11_handOn 10 = .ok (.istore_n 3, 1) := by decide +kernel
theorem dX11_handOn_11 : decode cX11_handOn 11 = .ok (.iload_n 3, 1) := by decide +kernel
theorem dX11_handOn_12 : decode cX11_handOn 12 = .ok (.ifCond .ne 7, 3) := by decide +kernel
theorem dX11_handOn_15 : decode cX11_handOn 15 = .ok (.iconst (-1), 1) := by decide +kernel
theorem dX11_handOn_16 : decode cX11_handOn 16 = .ok (.goto 16, 3) := by decide +kernel
theorem dX11_handOn_19 : decode cX11_handOn 19 = .ok (.iload_n 2, 1) := by decide +kernel
theorem dX11_handOn_20 : decode cX11_handOn 20 = .ok (.ifCond .ge 11, 3) := by decide +kernel
theorem dX11_handOn_23 : decode cX11_handOn 23 = .ok (.aload_n 0, 1) := by decide +kernel
theorem dX11_handOn_24 : decode cX11_handOn 24 = .ok (.iload_n 3, 1) := by decide +kernel
theorem dX11_handOn_25 : decode cX11_handOn 25 = .ok (.invokevirtual 334, 3) := by decide +kernel
theorem dX11_handOn_28 : decode cX11_handOn 28 = .ok (.goto 4, 3) := by decide +kernel
theorem dX11_handOn_31 : decode cX11_handOn 31 = .ok (.iload_n 2, 1) := by decide +kernel
theorem dX11_handOn_32 : decode cX11_handOn 32 = .ok (.istore 4, 2) := by decide +kernel
theorem dX11_handOn_34 : decode cX11_handOn 34 = .ok (.aload_n 0, 1) := by decide +kernel
theorem dX11_handOn_35 : decode cX11_handOn 35 = .ok (.getfield 31, 3) := by decide +kernel
theorem dX11_handOn_38 : decode cX11_handOn 38 = .ok (.iload_n 1, 1) := by decide +kernel
theorem dX11_handOn_39 : decode cX11_handOn 39 = .ok (.aload_n 0, 1) := by decide +kernel
theorem dX11_handOn_40 : decode cX11_handOn 40 = .ok (.aload_n 0, 1) := by decide +kernel
theorem dX11_handOn_41 : decode cX11_handOn 41 = .ok (.getfield 31, 3) := by decide +kernel
theorem dX11_handOn_44 : decode cX11_handOn 44 = .ok (.iload_n 1, 1) := by decide +kernel
theorem dX11_handOn_45 : decode cX11_handOn 45 = .ok (.iaload, 1) := by decide +kernel
theorem dX11_handOn_46 : decode cX11_handOn 46 = .ok (.iload 4, 2) := by decide +kernel
theorem dX11_handOn_48 : decode cX11_handOn 48 = .ok (.invokevirtual 337, 3) := by decide +kernel
theorem dX11_handOn_51 : decode cX11_handOn 51 = .ok (.iastore, 1) := by decide +kernel
theorem dX11_handOn_52 : decode cX11_handOn 52 = .ok (.aload_n 0, 1) := by decide +kernel
theorem dX11_handOn_53 : decode cX11_handOn 53 = .ok (.getfield 34, 3) := by decide +kernel
theorem dX11_handOn_56 : decode cX11_handOn 56 = .ok (.iload_n 1, 1) := by decide +kernel
theorem dX11_handOn_57 : decode cX11_handOn 57 = .ok (.dup2, 1) := by decide +kernel
theorem dX11_handOn_58 : decode cX11_handOn 58 = .ok (.iaload, 1) := by decide +kernel
theorem dX11_handOn_59 : decode cX11_handOn 59 = .ok (.iconst 1, 1) := by decide +kernel
theorem dX11_handOn_60 : decode cX11_handOn 60 = .ok (.iadd, 1) := by decide +kernel
theorem dX11_handOn_61 : decode cX11_handOn 61 = .ok (.iastore, 1) := by decide +kernel
theorem dX11_handOn_62 : decode cX11_handOn 62 = .ok (.iload 4, 2) := by decide +kernel
theorem dX11_handOn_64 : decode cX11_handOn 64 = .ok (.ireturn, 1) := by decide +kernel
theorem dX11_hand_0 : decode cX11_hand 0 = .ok (.aload_n 0, 1) := by decide +kernel
theorem dX11_hand_1 : decode cX11_hand 1 = .ok (.iload_n 1, 1) := by decide +kernel
theorem dX11_hand_2 : decode cX11_hand 2 = .ok (.invokevirtual 309, 3) := by decide +kernel
theorem dX11_hand_5 : decode cX11_hand 5 = .ok (.ifCond .eq 16, 3) := by decide +kernel
theorem dX11_hand_8 : decode cX11_hand 8 = .ok (.iload_n 2, 1) := by decide +kernel
theorem dX11_hand_9 : decode cX11_hand 9 = .ok (.iconst (-1), 1) := by decide +kernel
theorem dX11_hand_10 : decode cX11_hand 10 = .ok (.if_icmp .eq 15, 3) := by decide +kernel
theorem dX11_hand_13 : decode cX11_hand 13 = .ok (.aload_n 0, 1) := by decide +kernel
theorem dX11_hand_14 : decode cX11_hand 14 = .ok (.iload_n 2, 1) := by decide +kernel
theorem dX11_hand_15 : decode cX11_hand 15 = .ok (.invokevirtual 255, 3) := by decide +kernel
theorem dX11_hand_18 : decode cX11_hand 18 = .ok (.ifCond .ne 7, 3) := by decide +kernel
theorem dX11_hand_21 : decode cX11_hand 21 = .ok (.sipush (-1001), 3) := by decide +kernel
theorem dX11_hand_24 : decode cX11_hand 24 = .ok (.ireturn, 1) := by decide +kernel
theorem dX11_hand_25 : decode cX11_hand 25 = .ok (.aload_n 0, 1) := by decide +kernel
theorem dX11_hand_26 : decode cX11_hand 26 = .ok (.aload_n 0, 1) := by decide +kernel
theorem dX11_hand_27 : decode cX11_hand 27 = .ok (.getfield 31, 3) := by decide +kernel
theorem dX11_hand_30 : decode cX11_hand 30 = .ok (.iload_n 1, 1) := by decide +kernel
theorem dX11_hand_31 : decode cX11_hand 31 = .ok (.iaload, 1) := by decide +kernel
theorem dX11_hand_32 : decode cX11_hand 32 = .ok (.invokevirtual 312, 3) := by decide +kernel
theorem dX11_hand_35 : decode cX11_hand 35 = .ok (.ifCond .ne 25, 3) := by decide +kernel
theorem dX11_hand_38 : decode cX11_hand 38 = .ok (.iload_n 2, 1) := by decide +kernel
theorem dX11_hand_39 : decode cX11_hand 39 = .ok (.iconst (-1), 1) := by decide +kernel
theorem dX11_hand_40 : decode cX11_hand 40 = .ok (.if_icmp .eq 24, 3) := by decide +kernel
theorem dX11_hand_43 : decode cX11_hand 43 = .ok (.aload_n 0, 1) := by decide +kernel
theorem dX11_hand_44 : decode cX11_hand 44 = .ok (.aload_n 0, 1) := by decide +kernel
theorem dX11_hand_45 : decode cX11_hand 45 = .ok (.getfield 31, 3) := by decide +kernel
theorem dX11_hand_48 : decode cX11_hand 48 = .ok (.iload_n 1, 1) := by decide +kernel
theorem dX11_hand_49 : decode cX11_hand 49 = .ok (.iaload, 1) := by decide +kernel
theorem dX11_hand_50 : decode cX11_hand 50 = .ok (.invokevirtual 315, 3) := by decide +kernel
theorem dX11_hand_53 : decode cX11_hand 53 = .ok (.iload_n 2, 1) := by decide +kernel
theorem dX11_hand_54 : decode cX11_hand 54 = .ok (.invokestatic 287, 3) := by decide +kernel
theorem dX11_hand_57 : decode cX11_hand 57 = .ok (.ifCond .ne 7, 3) := by decide +kernel
theorem dX11_hand_60 : decode cX11_hand 60 = .ok (.sipush (-1003), 3) := by decide +kernel
theorem dX11_hand_63 : decode cX11_hand 63 = .ok (.ireturn, 1) := by decide +kernel
theorem dX11_hand_64 : decode cX11_hand 64 = .ok (.aload_n 0, 1) := by decide +kernel
theorem dX11_hand_65 : decode cX11_hand 65 = .ok (.iload_n 1, 1) := by decide +kernel
theorem dX11_hand_66 : decode cX11_hand 66 = .ok (.iload_n 2, 1) := by decide +kernel
theorem dX11_hand_67 : decode cX11_hand 67 = .ok (.invokevirtual 340, 3) := by decide +kernel
theorem dX11_hand_70 : decode cX11_hand 70 = .ok (.ireturn, 1) := by decide +kernel
theorem dX11_begin_0 : decode cX11_begin 0 = .ok (.aload_n 0, 1) := by decide +kernel
theorem dX11_begin_1 : decode cX11_begin 1 = .ok (.iload_n 1, 1) := by decide +kernel
theorem dX11_begin_2 : decode cX11_begin 2 = .ok (.invokevirtual 309, 3) := by decide +kernel
theorem dX11_begin_5 : decode cX11_begin 5 = .ok (.ifCond .ne 7, 3) := by decide +kernel
theorem dX11_begin_8 : decode cX11_begin 8 = .ok (.sipush (-1001), 3) := by decide +kernel
theorem dX11_begin_11 : decode cX11_begin 11 = .ok (.ireturn, 1) := by decide +kernel
theorem dX11_begin_12 : decode cX11_begin 12 = .ok (.aload_n 0, 1) := by decide +kernel
theorem dX11_begin_13 : decode cX11_begin 13 = .ok (.getfield 34, 3) := by decide +kernel
theorem dX11_begin_16 : decode cX11_begin 16 = .ok (.iload_n 1, 1) := by decide +kernel
theorem dX11_begin_17 : decode cX11_begin 17 = .ok (.iaload, 1) := by decide +kernel
theorem dX11_begin_18 : decode cX11_begin 18 = .ok (.istore_n 2, 1) := by decide +kernel
theorem dX11_begin_19 : decode cX11_begin 19 = .ok (.aload_n 0, 1) := by decide +kernel
theorem dX11_begin_20 : decode cX11_begin 20 = .ok (.getfield 31, 3) := by decide +kernel
theorem dX11_begin_23 : decode cX11_begin 23 = .ok (.iload_n 1, 1) := by decide +kernel
theorem dX11_begin_24 : decode cX11_begin 24 = .ok (.aload_n 0, 1) := by decide +kernel
theorem dX11_begin_25 : decode cX11_begin 25 = .ok (.iload_n 1, 1) := by decide +kernel
theorem dX11_begin_26 : decode cX11_begin 26 = .ok (.invokevirtual 246, 3) := by decide +kernel
theorem dX11_begin_29 : decode cX11_begin 29 = .ok (.iastore, 1) := by decide +kernel
theorem dX11_begin_30 : decode cX11_begin 30 = .ok (.aload_n 0, 1) := by decide +kernel
theorem dX11_begin_31 : decode cX11_begin 31 = .ok (.getfield 34, 3) := by decide +kernel
theorem dX11_begin_34 : decode cX11_begin 34 = .ok (.iload_n 1, 1) := by decide +kernel
theorem dX11_begin_35 : decode cX11_begin 35 = .ok (.iconst 0, 1) := by decide +kernel
theorem dX11_begin_36 : decode cX11_begin 36 = .ok (.iastore, 1) := by decide +kernel
theorem dX11_begin_37 : decode cX11_begin 37 = .ok (.iload_n 2, 1) := by decide +kernel
theorem dX11_begin_38 : decode cX11_begin 38 = .ok (.ireturn, 1) := by decide +kernel
theorem dX11_drift_0 : decode cX11_drift 0 = .ok (.aload_n 0, 1) := by decide +kernel
theorem dX11_drift_1 : decode cX11_drift 1 = .ok (.iload_n 1, 1) := by decide +kernel
theorem dX11_drift_2 : decode cX11_drift 2 = .ok (.invokevirtual 309, 3) := by decide +kernel
theorem dX11_drift_5 : decode cX11_drift 5 = .ok (.ifCond .ne 7, 3) := by decide +kernel
theorem dX11_drift_8 : decode cX11_drift 8 = .ok (.sipush (-1001), 3) := by decide +kernel
theorem dX11_drift_11 : decode cX11_drift 11 = .ok (.ireturn, 1) := by decide +kernel
theorem dX11_drift_12 : decode cX11_drift 12 = .ok (.iload_n 2, 1) := by decide +kernel
theorem dX11_drift_13 : decode cX11_drift 13 = .ok (.i2l, 1) := by decide +kernel
theorem dX11_drift_14 : decode cX11_drift 14 = .ok (.lconst 1, 1) := by decide +kernel
theorem dX11_drift_15 : decode cX11_drift 15 = .ok (.ldc2_w 343, 3) := by decide +kernel
theorem dX11_drift_18 : decode cX11_drift 18 = .ok (.invokestatic 144, 3) := by decide +kernel
theorem dX11_drift_21 : decode cX11_drift 21 = .ok (.ifCond .ne 7, 3) := by decide +kernel
theorem dX11_drift_24 : decode cX11_drift 24 = .ok (.sipush (-1002), 3) := by decide +kernel
theorem dX11_drift_27 : decode cX11_drift 27 = .ok (.ireturn, 1) := by decide +kernel
theorem dX11_drift_28 : decode cX11_drift 28 = .ok (.iconst 0, 1) := by decide +kernel
theorem dX11_drift_29 : decode cX11_drift 29 = .ok (.istore_n 3, 1) := by decide +kernel
theorem dX11_drift_30 : decode cX11_drift 30 = .ok (.iload_n 3, 1) := by decide +kernel
theorem dX11_drift_31 : decode cX11_drift 31 = .ok (.iload_n 2, 1) := by decide +kernel
theorem dX11_drift_32 : decode cX11_drift 32 = .ok (.if_icmp .ge 30, 3) := by decide +kernel
theorem dX11_drift_35 : decode cX11_drift 35 = .ok (.aload_n 0, 1) := by decide +kernel
theorem dX11_drift_36 : decode cX11_drift 36 = .ok (.aload_n 0, 1) := by decide +kernel
theorem dX11_drift_37 : decode cX11_drift 37 = .ok (.getfield 31, 3) := by decide +kernel
theorem dX11_drift_40 : decode cX11_drift 40 = .ok (.iload_n 1, 1) := by decide +kernel
theorem dX11_drift_41 : decode cX11_drift 41 = .ok (.iaload, 1) := by decide +kernel
theorem dX11_drift_42 : decode cX11_drift 42 = .ok (.invokevirtual 312, 3) := by decide +kernel
theorem dX11_drift_45 : decode cX11_drift 45 = .ok (.ifCond .ne 17, 3) := by decide +kernel
theorem dX11_drift_48 : decode cX11_drift 48 = .ok (.aload_n 0, 1) := by decide +kernel
theorem dX11_drift_49 : decode cX11_drift 49 = .ok (.iload_n 1, 1) := by decide +kernel
theorem dX11_drift_50 : decode cX11_drift 50 = .ok (.iconst (-1), 1) := by decide +kernel
theorem dX11_drift_51 : decode cX11_drift 51 = .ok (.invokevirtual 340, 3) := by decide +kernel
theorem dX11_drift_54 : decode cX11_drift 54 = .ok (.istore 4, 2) := by decide +kernel
theorem dX11_drift_56 : decode cX11_drift 56 = .ok (.iinc 3 1, 3) := by decide +kernel
theorem dX11_drift_59 : decode cX11_drift 59 = .ok (.goto (-29), 3) := by decide +kernel
theorem dX11_drift_62 : decode cX11_drift 62 = .ok (.aload_n 0, 1) := by decide +kernel
theorem dX11_drift_63 : decode cX11_drift 63 = .ok (.aload_n 0, 1) := by decide +kernel
theorem dX11_drift_64 : decode cX11_drift 64 = .ok (.getfield 31, 3) := by decide +kernel
theorem dX11_drift_67 : decode cX11_drift 67 = .ok (.iload_n 1, 1) := by decide +kernel
theorem dX11_drift_68 : decode cX11_drift 68 = .ok (.iaload, 1) := by decide +kernel
theorem dX11_drift_69 : decode cX11_drift 69 = .ok (.invokevirtual 312, 3) := by decide +kernel
theorem dX11_drift_72 : decode cX11_drift 72 = .ok (.ireturn, 1) := by decide +kernel
theorem dX11_reach_0 : decode cX11_reach 0 = .ok (.aload_n 0, 1) := by decide +kernel
theorem dX11_reach_1 : decode cX11_reach 1 = .ok (.getfield 66, 3) := by decide +kernel
theorem dX11_reach_4 : decode cX11_reach 4 = .ok (.iload_n 2, 1) := by decide +kernel
theorem dX11_reach_5 : decode cX11_reach 5 = .ok (.iaload, 1) := by decide +kernel
theorem dX11_reach_6 : decode cX11_reach 6 = .ok (.ifCond .ne 53, 3) := by decide +kernel
theorem dX11_reach_9 : decode cX11_reach 9 = .ok (.aload_n 0, 1) := by decide +kernel
theorem dX11_reach_10 : decode cX11_reach 10 = .ok (.getfield 69, 3) := by decide +kernel
theorem dX11_reach_13 : decode cX11_reach 13 = .ok (.aload_n 0, 1) := by decide +kernel
theorem dX11_reach_14 : decode cX11_reach 14 = .ok (.getfield 345, 3) := by decide +kernel
theorem dX11_reach_17 : decode cX11_reach 17 = .ok (.iload_n 2, 1) := by decide +kernel
theorem dX11_reach_18 : decode cX11_reach 18 = .ok (.iastore, 1) := by decide +kernel
theorem dX11_reach_19 : decode cX11_reach 19 = .ok (.aload_n 0, 1) := by decide +kernel
theorem dX11_reach_20 : decode cX11_reach 20 = .ok (.getfield 72, 3) := by decide +kernel
theorem dX11_reach_23 : decode cX11_reach 23 = .ok (.aload_n 0, 1) := by decide +kernel
theorem dX11_reach_24 : decode cX11_reach 24 = .ok (.getfield 345, 3) := by decide +kernel
theorem dX11_reach_27 : decode cX11_reach 27 = .ok (.iconst (-1), 1) := by decide +kernel
theorem dX11_reach_28 : decode cX11_reach 28 = .ok (.iastore, 1) := by decide +kernel
theorem dX11_reach_29 : decode cX11_reach 29 = .ok (.aload_n 0, 1) := by decide +kernel
theorem dX11_reach_30 : decode cX11_reach 30 = .ok (.getfield 75, 3) := by decide +kernel
theorem dX11_reach_33 : decode cX11_reach 33 = .ok (.aload_n 0, 1) := by decide +kernel
theorem dX11_reach_34 : decode cX11_reach 34 = .ok (.getfield 345, 3) := by decide +kernel
theorem dX11_reach_37 : decode cX11_reach 37 = .ok (.iconst 0, 1) := by decide +kernel
theorem dX11_reach_38 : decode cX11_reach 38 = .ok (.iastore, 1) := by decide +kernel
theorem dX11_reach_39 : decode cX11_reach 39 = .ok (.aload_n 0, 1) := by decide +kernel
theorem dX11_reach_40 : decode cX11_reach 40 = .ok (.dup, 1) := by decide +kernel
theorem dX11_reach_41 : decode cX11_reach 41 = .ok (.getfield 345, 3) := by decide +kernel
theorem dX11_reach_44 : decode cX11_reach 44 = .ok (.iconst 1, 1) := by decide +kernel
theorem dX11_reach_45 : decode cX11_reach 45 = .ok (.iadd, 1) := by decide +kernel
theorem dX11_reach_46 : decode cX11_reach 46 = .ok (.putfield 345, 3) := by decide +kernel
theorem dX11_reach_49 : decode cX11_reach 49 = .ok (.aload_n 0, 1) := by decide +kernel
theorem dX11_reach_50 : decode cX11_reach 50 = .ok (.getfield 66, 3) := by decide +kernel
theorem dX11_reach_53 : decode cX11_reach 53 = .ok (.iload_n 2, 1) := by decide +kernel
theorem dX11_reach_54 : decode cX11_reach 54 = .ok (.aload_n 0, 1) := by decide +kernel
theorem dX11_reach_55 : decode cX11_reach 55 = .ok (.getfield 345, 3) := by decide +kernel
theorem dX11_reach_58 : decode cX11_reach 58 = .ok (.iastore, 1) := by decide +kernel
theorem dX11_reach_59 : decode cX11_reach 59 = .ok (.iload_n 1, 1) := by decide +kernel
theorem dX11_reach_60 : decode cX11_reach 60 = .ok (.ifCond .lt 72, 3) := by decide +kernel
theorem dX11_reach_63 : decode cX11_reach 63 = .ok (.aload_n 0, 1) := by decide +kernel
theorem dX11_reach_64 : decode cX11_reach 64 = .ok (.getfield 79, 3) := by decide +kernel
theorem dX11_reach_67 : decode cX11_reach 67 = .ok (.aload_n 0, 1) := by decide +kernel
theorem dX11_reach_68 : decode cX11_reach 68 = .ok (.getfield 348, 3) := by decide +kernel
theorem dX11_reach_71 : decode cX11_reach 71 = .ok (.iload_n 1, 1) := by decide +kernel
theorem dX11_reach_72 : decode cX11_reach 72 = .ok (.iastore, 1) := by decide +kernel
theorem dX11_reach_73 : decode cX11_reach 73 = .ok (.aload_n 0, 1) := by decide +kernel
theorem dX11_reach_74 : decode cX11_reach 74 = .ok (.getfield 82, 3) := by decide +kernel
theorem dX11_reach_77 : decode cX11_reach 77 = .ok (.aload_n 0, 1) := by decide +kernel
theorem dX11_reach_78 : decode cX11_reach 78 = .ok (.getfield 348, 3) := by decide +kernel
theorem dX11_reach_81 : decode cX11_reach 81 = .ok (.aload_n 0, 1) := by decide +kernel
theorem dX11_reach_82 : decode cX11_reach 82 = .ok (.getfield 72, 3) := by decide +kernel
theorem dX11_reach_85 : decode cX11_reach 85 = .ok (.aload_n 0, 1) := by decide +kernel
theorem dX11_reach_86 : decode cX11_reach 86 = .ok (.getfield 66, 3) := by decide +kernel
theorem dX11_reach_89 : decode cX11_reach 89 = .ok (.iload_n 2, 1) := by decide +kernel
theorem dX11_reach_90 : decode cX11_reach 90 = .ok (.iaload, 1) := by decide +kernel
theorem dX11_reach_91 : decode cX11_reach 91 = .ok (.iconst 1, 1) := by decide +kernel
theorem dX11_reach_92 : decode cX11_reach 92 = .ok (.isub, 1) := by decide +kernel
theorem dX11_reach_93 : decode cX11_reach 93 = .ok (.iaload, 1) := by decide +kernel
theorem dX11_reach_94 : decode cX11_reach 94 = .ok (.iastore, 1) := by decide +kernel
theorem dX11_reach_95 : decode cX11_reach 95 = .ok (.aload_n 0, 1) := by decide +kernel
theorem dX11_reach_96 : decode cX11_reach 96 = .ok (.getfield 72, 3) := by decide +kernel
theorem dX11_reach_99 : decode cX11_reach 99 = .ok (.aload_n 0, 1) := by decide +kernel
theorem dX11_reach_100 : decode cX11_reach 100 = .ok (.getfield 66, 3) := by decide +kernel
theorem dX11_reach_103 : decode cX11_reach 103 = .ok (.iload_n 2, 1) := by decide +kernel
theorem dX11_reach_104 : decode cX11_reach 104 = .ok (.iaload, 1) := by decide +kernel
theorem dX11_reach_105 : decode cX11_reach 105 = .ok (.iconst 1, 1) := by decide +kernel
theorem dX11_reach_106 : decode cX11_reach 106 = .ok (.isub, 1) := by decide +kernel
theorem dX11_reach_107 : decode cX11_reach 107 = .ok (.aload_n 0, 1) := by decide +kernel
theorem dX11_reach_108 : decode cX11_reach 108 = .ok (.getfield 348, 3) := by decide +kernel
theorem dX11_reach_111 : decode cX11_reach 111 = .ok (.iastore, 1) := by decide +kernel
theorem dX11_reach_112 : decode cX11_reach 112 = .ok (.aload_n 0, 1) := by decide +kernel
theorem dX11_reach_113 : decode cX11_reach 113 = .ok (.getfield 75, 3) := by decide +kernel
theorem dX11_reach_116 : decode cX11_reach 116 = .ok (.iload_n 1, 1) := by decide +kernel
theorem dX11_reach_117 : decode cX11_reach 117 = .ok (.dup2, 1) := by decide +kernel
theorem dX11_reach_118 : decode cX11_reach 118 = .ok (.iaload, 1) := by decide +kernel
theorem dX11_reach_119 : decode cX11_reach 119 = .ok (.iconst 1, 1) := by decide +kernel
theorem dX11_reach_120 : decode cX11_reach 120 = .ok (.iadd, 1) := by decide +kernel
theorem dX11_reach_121 : decode cX11_reach 121 = .ok (.iastore, 1) := by decide +kernel
theorem dX11_reach_122 : decode cX11_reach 122 = .ok (.aload_n 0, 1) := by decide +kernel
theorem dX11_reach_123 : decode cX11_reach 123 = .ok (.dup, 1) := by decide +kernel
theorem dX11_reach_124 : decode cX11_reach 124 = .ok (.getfield 348, 3) := by decide +kernel
theorem dX11_reach_127 : decode cX11_reach 127 = .ok (.iconst 1, 1) := by decide +kernel
theorem dX11_reach_128 : decode cX11_reach 128 = .ok (.iadd, 1) := by decide +kernel
theorem dX11_reach_129 : decode cX11_reach 129 = .ok (.putfield 348, 3) := by decide +kernel
theorem dX11_reach_132 : decode cX11_reach 132 = .ok (.return_, 1) := by decide +kernel
theorem dX11_spread_0 : decode cX11_spread 0 = .ok (.iconst 0, 1) := by decide +kernel
theorem dX11_spread_1 : decode cX11_spread 1 = .ok (.istore_n 3, 1) := by decide +kernel
theorem dX11_spread_2 : decode cX11_spread 2 = .ok (.iload_n 3, 1) := by decide +kernel
theorem dX11_spread_3 : decode cX11_spread 3 = .ok (.aload_n 0, 1) := by decide +kernel
theorem dX11_spread_4 : decode cX11_spread 4 = .ok (.getfield 345, 3) := by decide +kernel
theorem dX11_spread_7 : decode cX11_spread 7 = .ok (.if_icmp .ge 21, 3) := by decide +kernel
theorem dX11_spread_10 : decode cX11_spread 10 = .ok (.aload_n 0, 1) := by decide +kernel
theorem dX11_spread_11 : decode cX11_spread 11 = .ok (.getfield 66, 3) := by decide +kernel
theorem dX11_spread_14 : decode cX11_spread 14 = .ok (.aload_n 0, 1) := by decide +kernel
theorem dX11_spread_15 : decode cX11_spread 15 = .ok (.getfield 69, 3) := by decide +kernel
theorem dX11_spread_18 : decode cX11_spread 18 = .ok (.iload_n 3, 1) := by decide +kernel
theorem dX11_spread_19 : decode cX11_spread 19 = .ok (.iaload, 1) := by decide +kernel
theorem dX11_spread_20 : decode cX11_spread 20 = .ok (.iconst 0, 1) := by decide +kernel
theorem dX11_spread_21 : decode cX11_spread 21 = .ok (.iastore, 1) := by decide +kernel
theorem dX11_spread_22 : decode cX11_spread 22 = .ok (.iinc 3 1, 3) := by decide +kernel
theorem dX11_spread_25 : decode cX11_spread 25 = .ok (.goto (-23), 3) := by decide +kernel
theorem dX11_spread_28 : decode cX11_spread 28 = .ok (.aload_n 0, 1) := by decide +kernel
theorem dX11_spread_29 : decode cX11_spread 29 = .ok (.iconst 0, 1) := by decide +kernel
theorem dX11_spread_30 : decode cX11_spread 30 = .ok (.putfield 345, 3) := by decide +kernel
theorem dX11_spread_33 : decode cX11_spread 33 = .ok (.aload_n 0, 1) := by decide +kernel
theorem dX11_spread_34 : decode cX11_spread 34 = .ok (.iconst 0, 1) := by decide +kernel
theorem dX11_spread_35 : decode cX11_spread 35 = .ok (.putfield 348, 3) := by decide +kernel
theorem dX11_spread_38 : decode cX11_spread 38 = .ok (.aload_n 0, 1) := by decide +kernel
theorem dX11_spread_39 : decode cX11_spread 39 = .ok (.iconst (-1), 1) := by decide +kernel
theorem dX11_spread_40 : decode cX11_spread 40 = .ok (.iload_n 1, 1) := by decide +kernel
theorem dX11_spread_41 : decode cX11_spread 41 = .ok (.invokevirtual 351, 3) := by decide +kernel
theorem dX11_spread_44 : decode cX11_spread 44 = .ok (.iconst 0, 1) := by decide +kernel
theorem dX11_spread_45 : decode cX11_spread 45 = .ok (.istore_n 3, 1) := by decide +kernel
theorem dX11_spread_46 : decode cX11_spread 46 = .ok (.iload_n 3, 1) := by decide +kernel
theorem dX11_spread_47 : decode cX11_spread 47 = .ok (.aload_n 0, 1) := by decide +kernel
theorem dX11_spread_48 : decode cX11_spread 48 = .ok (.getfield 345, 3) := by decide +kernel
theorem dX11_spread_51 : decode cX11_spread 51 = .ok (.if_icmp .ge 133, 3) := by decide +kernel
theorem dX11_spread_54 : decode cX11_spread 54 = .ok (.aload_n 0, 1) := by decide +kernel
theorem dX11_spread_55 : decode cX11_spread 55 = .ok (.getfield 69, 3) := by decide +kernel
theorem dX11_spread_58 : decode cX11_spread 58 = .ok (.iload_n 3, 1) := by decide +kernel
theorem dX11_spread_59 : decode cX11_spread 59 = .ok (.iaload, 1) := by decide +kernel
theorem dX11_spread_60 : decode cX11_spread 60 = .ok (.istore 4, 2) := by decide +kernel
theorem dX11_spread_62 : decode cX11_spread 62 = .ok (.aload_n 0, 1) := by decide +kernel
theorem dX11_spread_63 : decode cX11_spread 63 = .ok (.iload 4, 2) := by decide +kernel
theorem dX11_spread_65 : decode cX11_spread 65 = .ok (.iconst 0, 1) := by decide +kernel
theorem dX11_spread_66 : decode cX11_spread 66 = .ok (.invokevirtual 306, 3) := by decide +kernel
theorem dX11_spread_69 : decode cX11_spread 69 = .ok (.ifCond .ne 17, 3) := by decide +kernel
theorem dX11_spread_72 : decode cX11_spread 72 = .ok (.aload_n 0, 1) := by decide +kernel
theorem dX11_spread_73 : decode cX11_spread 73 = .ok (.iload 4, 2) := by decide +kernel
theorem dX11_spread_75 : decode cX11_spread 75 = .ok (.iconst 1, 1) := by decide +kernel
theorem dX11_spread_76 : decode cX11_spread 76 = .ok (.invokevirtual 306, 3) := by decide +kernel
theorem dX11_spread_79 : decode cX11_spread 79 = .ok (.ifCond .ne 7, 3) := by decide +kernel
theorem dX11_spread_82 : decode cX11_spread 82 = .ok (.iconst 1, 1) := by decide +kernel
theorem dX11_spread_83 : decode cX11_spread 83 = .ok (.goto 4, 3) := by decide +kernel
theorem dX11_spread_86 : decode cX11_spread 86 = .ok (.iconst 0, 1) := by decide +kernel
theorem dX11_spread_87 : decode cX11_spread 87 = .ok (.istore 5, 2) := by decide +kernel
theorem dX11_spread_89 : decode cX11_spread 89 = .ok (.iload 5, 2) := by decide +kernel
theorem dX11_spread_91 : decode cX11_spread 91 = .ok (.ifCond .ne 87, 3) := by decide +kernel
theorem dX11_spread_94 : decode cX11_spread 94 = .ok (.iload_n 2, 1) := by decide +kernel
theorem dX11_spread_95 : decode cX11_spread 95 = .ok (.ifCond .ne 12, 3) := by decide +kernel
theorem dX11_spread_98 : decode cX11_spread 98 = .ok (.aload_n 0, 1) := by decide +kernel
theorem dX11_spread_99 : decode cX11_spread 99 = .ok (.iload 4, 2) := by decide +kernel
theorem dX11_spread_101 : decode cX11_spread 101 = .ok (.invokevirtual 303, 3) := by decide +kernel
theorem dX11_spread_104 : decode cX11_spread 104 = .ok (.ifCond .ne 74, 3) := by decide +kernel
theorem dX11_spread_107 : decode cX11_spread 107 = .ok (.aload_n 0, 1) := by decide +kernel
theorem dX11_spread_108 : decode cX11_spread 108 = .ok (.iload 4, 2) := by decide +kernel
theorem dX11_spread_110 : decode cX11_spread 110 = .ok (.iload 4, 2) := by decide +kernel
theorem dX11_spread_112 : decode cX11_spread 112 = .ok (.invokestatic 277, 3) := by decide +kernel
theorem dX11_spread_115 : decode cX11_spread 115 = .ok (.invokevirtual 306, 3) := by decide +kernel
theorem dX11_spread_118 : decode cX11_spread 118 = .ok (.istore 6, 2) := by decide +kernel
theorem dX11_spread_120 : decode cX11_spread 120 = .ok (.iload 6, 2) := by decide +kernel
theorem dX11_spread_122 : decode cX11_spread 122 = .ok (.ifCond .ne 15, 3) := by decide +kernel
theorem dX11_spread_125 : decode cX11_spread 125 = .ok (.aload_n 0, 1) := by decide +kernel
theorem dX11_spread_126 : decode cX11_spread 126 = .ok (.iload_n 3, 1) := by decide +kernel
theorem dX11_spread_127 : decode cX11_spread 127 = .ok (.aload_n 0, 1) := by decide +kernel
theorem dX11_spread_128 : decode cX11_spread 128 = .ok (.iload 4, 2) := by decide +kernel
theorem dX11_spread_130 : decode cX11_spread 130 = .ok (.iconst (-1), 1) := by decide +kernel
theorem dX11_spread_131 : decode cX11_spread 131 = .ok (.invokevirtual 337, 3) := by decide +kernel
theorem dX11_spread_134 : decode cX11_spread 134 = .ok (.invokevirtual 351, 3) := by decide +kernel
theorem dX11_spread_137 : decode cX11_spread 137 = .ok (.iconst 0, 1) := by decide +kernel
theorem dX11_spread_138 : decode cX11_spread 138 = .ok (.istore 7, 2) := by decide +kernel
theorem dX11_spread_140 : decode cX11_spread 140 = .ok (.iload 7, 2) := by decide +kernel
theorem dX11_spread_142 : decode cX11_spread 142 = .ok (.aload_n 0, 1) := by decide +kernel
theorem dX11_spread_143 : decode cX11_spread 143 = .ok (.getfield 141, 3) := by decide +kernel
theorem dX11_spread_146 : decode cX11_spread 146 = .ok (.if_icmp .ge 32, 3) := by decide +kernel
theorem dX11_spread_149 : decode cX11_spread 149 = .ok (.iload 6, 2) := by decide +kernel
theorem dX11_spread_151 : decode cX11_spread 151 = .ok (.iload 7, 2) := by decide +kernel
theorem dX11_spread_153 : decode cX11_spread 153 = .ok (.invokestatic 287, 3) := by decide +kernel
theorem dX11_spread_156 : decode cX11_spread 156 = .ok (.ifCond .eq 16, 3) := by decide +kernel
theorem dX11_spread_159 : decode cX11_spread 159 = .ok (.aload_n 0, 1) := by decide +kernel
theorem dX11_spread_160 : decode cX11_spread 160 = .ok (.iload_n 3, 1) := by decide +kernel
theorem dX11_spread_161 : decode cX11_spread 161 = .ok (.aload_n 0, 1) := by decide +kernel
theorem dX11_spread_162 : decode cX11_spread 162 = .ok (.iload 4, 2) := by decide +kernel
theorem dX11_spread_164 : decode cX11_spread 164 = .ok (.iload 7, 2) := by decide +kernel
theorem dX11_spread_166 : decode cX11_spread 166 = .ok (.invokevirtual 337, 3) := by decide +kernel
theorem dX11_spread_169 : decode cX11_spread 169 = .ok (.invokevirtual 351, 3) := by decide +kernel
theorem dX11_spread_172 : decode cX11_spread 172 = .ok (.iinc 7 1, 3) := by decide +kernel
theorem dX11_spread_175 : decode cX11_spread 175 = .ok (.goto (-35), 3) := by decide +kernel
theorem dX11_spread_178 : decode cX11_spread 178 = .ok (.iinc 3 1, 3) := by decide +kernel
theorem dX11_spread_181 : decode cX11_spread 181 = .ok (.goto (-135), 3) := by decide +kernel
theorem dX11_spread_184 : decode cX11_spread 184 = .ok (.return_, 1) := by decide +kernel
theorem dX11_goesRound_0 : decode cX11_goesRound 0 = .ok (.iconst 0, 1) := by decide +kernel
theorem dX11_goesRound_1 : decode cX11_goesRound 1 = .ok (.istore_n 1, 1) := by decide +kernel
theorem dX11_goesRound_2 : decode cX11_goesRound 2 = .ok (.iconst 0, 1) := by decide +kernel
theorem dX11_goesRound_3 : decode cX11_goesRound 3 = .ok (.istore_n 2, 1) := by decide +kernel
theorem dX11_goesRound_4 : decode cX11_goesRound 4 = .ok (.iload_n 2, 1) := by decide +kernel
theorem dX11_goesRound_5 : decode cX11_goesRound 5 = .ok (.aload_n 0, 1) := by decide +kernel
theorem dX11_goesRound_6 : decode cX11_goesRound 6 = .ok (.getfield 345, 3) := by decide +kernel
theorem dX11_goesRound_9 : decode cX11_goesRound 9 = .ok (.if_icmp .ge 40, 3) := by decide +kernel
theorem dX11_goesRound_12 : decode cX11_goesRound 12 = .ok (.aload_n 0, 1) := by decide +kernel
theorem dX11_goesRound_13 : decode cX11_goesRound 13 = .ok (.getfield 85, 3) := by decide +kernel
theorem dX11_goesRound_16 : decode cX11_goesRound 16 = .ok (.iload_n 2, 1) := by decide +kernel
theorem dX11_goesRound_17 : decode cX11_goesRound 17 = .ok (.aload_n 0, 1) := by decide +kernel
theorem dX11_goesRound_18 : decode cX11_goesRound 18 = .ok (.getfield 75, 3) := by decide +kernel
theorem dX11_goesRound_21 : decode cX11_goesRound 21 = .ok (.iload_n 2, 1) := by decide +kernel
theorem dX11_goesRound_22 : decode cX11_goesRound 22 = .ok (.iaload, 1) := by decide +kernel
theorem dX11_goesRound_23 : decode cX11_goesRound 23 = .ok (.iastore, 1) := by decide +kernel
theorem dX11_goesRound_24 : decode cX11_goesRound 24 = .ok (.aload_n 0, 1) := by decide +kernel
theorem dX11_goesRound_25 : decode cX11_goesRound 25 = .ok (.getfield 85, 3) := by decide +kernel
theorem dX11_goesRound_28 : decode cX11_goesRound 28 = .ok (.iload_n 2, 1) := by decide +kernel
theorem dX11_goesRound_29 : decode cX11_goesRound 29 = .ok (.iaload, 1) := by decide +kernel
theorem dX11_goesRound_30 : decode cX11_goesRound 30 = .ok (.ifCond .ne 13, 3) := by decide +kernel
theorem dX11_goesRound_33 : decode cX11_goesRound 33 = .ok (.aload_n 0, 1) := by decide +kernel
theorem dX11_goesRound_34 : decode cX11_goesRound 34 = .ok (.getfield 88, 3) := by decide +kernel
theorem dX11_goesRound_37 : decode cX11_goesRound 37 = .ok (.iload_n 1, 1) := by decide +kernel
theorem dX11_goesRound_38 : decode cX11_goesRound 38 = .ok (.iload_n 2, 1) := by decide +kernel
theorem dX11_goesRound_39 : decode cX11_goesRound 39 = .ok (.iastore, 1) := by decide +kernel
theorem dX11_goesRound_40 : decode cX11_goesRound 40 = .ok (.iinc 1 1, 3) := by decide +kernel
theorem dX11_goesRound_43 : decode cX11_goesRound 43 = .ok (.iinc 2 1, 3) := by decide +kernel
theorem dX11_goesRound_46 : decode cX11_goesRound 46 = .ok (.goto (-42), 3) := by decide +kernel
theorem dX11_goesRound_49 : decode cX11_goesRound 49 = .ok (.iconst 0, 1) := by decide +kernel
theorem dX11_goesRound_50 : decode cX11_goesRound 50 = .ok (.istore_n 2, 1) := by decide +kernel
theorem dX11_goesRound_51 : decode cX11_goesRound 51 = .ok (.iload_n 2, 1) := by decide +kernel
theorem dX11_goesRound_52 : decode cX11_goesRound 52 = .ok (.iload_n 1, 1) := by decide +kernel
theorem dX11_goesRound_53 : decode cX11_goesRound 53 = .ok (.if_icmp .ge 79, 3) := by decide +kernel
theorem dX11_goesRound_56 : decode cX11_goesRound 56 = .ok (.aload_n 0, 1) := by decide +kernel
theorem dX11_goesRound_57 : decode cX11_goesRound 57 = .ok (.getfield 72, 3) := by decide +kernel
theorem dX11_goesRound_60 : decode cX11_goesRound 60 = .ok (.aload_n 0, 1) := by decide +kernel
theorem dX11_goesRound_61 : decode cX11_goesRound 61 = .ok (.getfield 88, 3) := by decide +kernel
theorem dX11_goesRound_64 : decode cX11_goesRound 64 = .ok (.iload_n 2, 1) := by decide +kernel
theorem dX11_goesRound_65 : decode cX11_goesRound 65 = .ok (.iaload, 1) := by decide +kernel
theorem dX11_goesRound_66 : decode cX11_goesRound 66 = .ok (.iaload, 1) := by decide +kernel
theorem dX11_goesRound_67 : decode cX11_goesRound 67 = .ok (.istore_n 3, 1) := by decide +kernel
theorem dX11_goesRound_68 : decode cX11_goesRound 68 = .ok (.iload_n 3, 1) := by decide +kernel
theorem dX11_goesRound_69 : decode cX11_goesRound 69 = .ok (.ifCond .lt 57, 3) := by decide +kernel
theorem dX11_goesRound_72 : decode cX11_goesRound 72 = .ok (.aload_n 0, 1) := by decide +kernel
theorem dX11_goesRound_73 : decode cX11_goesRound 73 = .ok (.getfield 85, 3) := by decide +kernel
theorem dX11_goesRound_76 : decode cX11_goesRound 76 = .ok (.aload_n 0, 1) := by decide +kernel
theorem dX11_goesRound_77 : decode cX11_goesRound 77 = .ok (.getfield 79, 3) := by decide +kernel
theorem dX11_goesRound_80 : decode cX11_goesRound 80 = .ok (.iload_n 3, 1) := by decide +kernel
theorem dX11_goesRound_81 : decode cX11_goesRound 81 = .ok (.iaload, 1) := by decide +kernel
theorem dX11_goesRound_82 : decode cX11_goesRound 82 = .ok (.dup2, 1) := by decide +kernel
theorem dX11_goesRound_83 : decode cX11_goesRound 83 = .ok (.iaload, 1) := by decide +kernel
theorem dX11_goesRound_84 : decode cX11_goesRound 84 = .ok (.iconst 1, 1) := by decide +kernel
theorem dX11_goesRound_85 : decode cX11_goesRound 85 = .ok (.isub, 1) := by decide +kernel
theorem dX11_goesRound_86 : decode cX11_goesRound 86 = .ok (.iastore, 1) := by decide +kernel
theorem dX11_goesRound_87 : decode cX11_goesRound 87 = .ok (.aload_n 0, 1) := by decide +kernel
theorem dX11_goesRound_88 : decode cX11_goesRound 88 = .ok (.getfield 85, 3) := by decide +kernel
theorem dX11_goesRound_91 : decode cX11_goesRound 91 = .ok (.aload_n 0, 1) := by decide +kernel
theorem dX11_goesRound_92 : decode cX11_goesRound 92 = .ok (.getfield 79, 3) := by decide +kernel
theorem dX11_goesRound_95 : decode cX11_goesRound 95 = .ok (.iload_n 3, 1) := by decide +kernel
theorem dX11_goesRound_96 : decode cX11_goesRound 96 = .ok (.iaload, 1) := by decide +kernel
theorem dX11_goesRound_97 : decode cX11_goesRound 97 = .ok (.iaload, 1) := by decide +kernel
theorem dX11_goesRound_98 : decode cX11_goesRound 98 = .ok (.ifCond .ne 18, 3) := by decide +kernel
theorem dX11_goesRound_101 : decode cX11_goesRound 101 = .ok (.aload_n 0, 1) := by decide +kernel
theorem dX11_goesRound_102 : decode cX11_goesRound 102 = .ok (.getfield 88, 3) := by decide +kernel
theorem dX11_goesRound_105 : decode cX11_goesRound 105 = .ok (.iload_n 1, 1) := by decide +kernel
theorem dX11_goesRound_106 : decode cX11_goesRound 106 = .ok (.aload_n 0, 1) := by decide +kernel
theorem dX11_goesRound_107 : decode cX11_goesRound 107 = .ok (.getfield 79, 3) := by decide +kernel
theorem dX11_goesRound_110 : decode cX11_goesRound 110 = .ok (.iload_n 3, 1) := by decide +kernel
theorem dX11_goesRound_111 : decode cX11_goesRound 111 = .ok (.iaload, 1) := by decide +kernel
theorem dX11_goesRound_112 : decode cX11_goesRound 112 = .ok (.iastore, 1) := by decide +kernel
theorem dX11_goesRound_113 : decode cX11_goesRound 113 = .ok (.iinc 1 1, 3) := by decide +kernel
theorem dX11_goesRound_116 : decode cX11_goesRound 116 = .ok (.aload_n 0, 1) := by decide +kernel
theorem dX11_goesRound_117 : decode cX11_goesRound 117 = .ok (.getfield 82, 3) := by decide +kernel
theorem dX11_goesRound_120 : decode cX11_goesRound 120 = .ok (.iload_n 3, 1) := by decide +kernel
theorem dX11_goesRound_121 : decode cX11_goesRound 121 = .ok (.iaload, 1) := by decide +kernel
theorem dX11_goesRound_122 : decode cX11_goesRound 122 = .ok (.istore_n 3, 1) := by decide +kernel
theorem dX11_goesRound_123 : decode cX11_goesRound 123 = .ok (.goto (-55), 3) := by decide +kernel
theorem dX11_goesRound_126 : decode cX11_goesRound 126 = .ok (.iinc 2 1, 3) := by decide +kernel
theorem dX11_goesRound_129 : decode cX11_goesRound 129 = .ok (.goto (-78), 3) := by decide +kernel
theorem dX11_goesRound_132 : decode cX11_goesRound 132 = .ok (.iload_n 1, 1) := by decide +kernel
theorem dX11_goesRound_133 : decode cX11_goesRound 133 = .ok (.aload_n 0, 1) := by decide +kernel
theorem dX11_goesRound_134 : decode cX11_goesRound 134 = .ok (.getfield 345, 3) := by decide +kernel
theorem dX11_goesRound_137 : decode cX11_goesRound 137 = .ok (.if_icmp .ge 7, 3) := by decide +kernel
theorem dX11_goesRound_140 : decode cX11_goesRound 140 = .ok (.iconst 1, 1) := by decide +kernel
theorem dX11_goesRound_141 : decode cX11_goesRound 141 = .ok (.goto 4, 3) := by decide +kernel
theorem dX11_goesRound_144 : decode cX11_goesRound 144 = .ok (.iconst 0, 1) := by decide +kernel
theorem dX11_goesRound_145 : decode cX11_goesRound 145 = .ok (.ireturn, 1) := by decide +kernel
theorem dX11_comes_0 : decode cX11_comes 0 = .ok (.aload_n 0, 1) := by decide +kernel
theorem dX11_comes_1 : decode cX11_comes 1 = .ok (.iload_n 1, 1) := by decide +kernel
theorem dX11_comes_2 : decode cX11_comes 2 = .ok (.invokevirtual 309, 3) := by decide +kernel
theorem dX11_comes_5 : decode cX11_comes 5 = .ok (.ifCond .ne 7, 3) := by decide +kernel
theorem dX11_comes_8 : decode cX11_comes 8 = .ok (.sipush (-1001), 3) := by decide +kernel
theorem dX11_comes_11 : decode cX11_comes 11 = .ok (.ireturn, 1) := by decide +kernel
theorem dX11_comes_12 : decode cX11_comes 12 = .ok (.iload_n 2, 1) := by decide +kernel
theorem dX11_comes_13 : decode cX11_comes 13 = .ok (.i2l, 1) := by decide +kernel
theorem dX11_comes_14 : decode cX11_comes 14 = .ok (.lconst 0, 1) := by decide +kernel
theorem dX11_comes_15 : decode cX11_comes 15 = .ok (.ldc2_w 355, 3) := by decide +kernel
theorem dX11_comes_18 : decode cX11_comes 18 = .ok (.invokestatic 144, 3) := by decide +kernel
theorem dX11_comes_21 : decode cX11_comes 21 = .ok (.ifCond .ne 7, 3) := by decide +kernel
theorem dX11_comes_24 : decode cX11_comes 24 = .ok (.sipush (-1002), 3) := by decide +kernel
theorem dX11_comes_27 : decode cX11_comes 27 = .ok (.ireturn, 1) := by decide +kernel
theorem dX11_comes_28 : decode cX11_comes 28 = .ok (.aload_n 0, 1) := by decide +kernel
theorem dX11_comes_29 : decode cX11_comes 29 = .ok (.aload_n 0, 1) := by decide +kernel
theorem dX11_comes_30 : decode cX11_comes 30 = .ok (.getfield 31, 3) := by decide +kernel
theorem dX11_comes_33 : decode cX11_comes 33 = .ok (.iload_n 1, 1) := by decide +kernel
theorem dX11_comes_34 : decode cX11_comes 34 = .ok (.iaload, 1) := by decide +kernel
theorem dX11_comes_35 : decode cX11_comes 35 = .ok (.iconst 0, 1) := by decide +kernel
theorem dX11_comes_36 : decode cX11_comes 36 = .ok (.invokevirtual 357, 3) := by decide +kernel
theorem dX11_comes_39 : decode cX11_comes 39 = .ok (.aload_n 0, 1) := by decide +kernel
theorem dX11_comes_40 : decode cX11_comes 40 = .ok (.invokevirtual 361, 3) := by decide +kernel
theorem dX11_comes_43 : decode cX11_comes 43 = .ok (.iconst 0, 1) := by decide +kernel
theorem dX11_comes_44 : decode cX11_comes 44 = .ok (.istore_n 3, 1) := by decide +kernel
theorem dX11_comes_45 : decode cX11_comes 45 = .ok (.iconst 0, 1) := by decide +kernel
theorem dX11_comes_46 : decode cX11_comes 46 = .ok (.istore 4, 2) := by decide +kernel
theorem dX11_comes_48 : decode cX11_comes 48 = .ok (.iload 4, 2) := by decide +kernel
theorem dX11_comes_50 : decode cX11_comes 50 = .ok (.sipush 1600, 3) := by decide +kernel
theorem dX11_comes_53 : decode cX11_comes 53 = .ok (.if_icmp .ge 27, 3) := by decide +kernel
theorem dX11_comes_56 : decode cX11_comes 56 = .ok (.iload_n 3, 1) := by decide +kernel
theorem dX11_comes_57 : decode cX11_comes 57 = .ok (.aload_n 0, 1) := by decide +kernel
theorem dX11_comes_58 : decode cX11_comes 58 = .ok (.getfield 91, 3) := by decide +kernel
theorem dX11_comes_61 : decode cX11_comes 61 = .ok (.iload 4, 2) := by decide +kernel
theorem dX11_comes_63 : decode cX11_comes 63 = .ok (.baload, 1) := by decide +kernel
theorem dX11_comes_64 : decode cX11_comes 64 = .ok (.ifCond .eq 7, 3) := by decide +kernel
theorem dX11_comes_67 : decode cX11_comes 67 = .ok (.iconst 1, 1) := by decide +kernel
theorem dX11_comes_68 : decode cX11_comes 68 = .ok (.goto 4, 3) := by decide +kernel
theorem dX11_comes_71 : decode cX11_comes 71 = .ok (.iconst 0, 1) := by decide +kernel
theorem dX11_comes_72 : decode cX11_comes 72 = .ok (.iadd, 1) := by decide +kernel
theorem dX11_comes_73 : decode cX11_comes 73 = .ok (.istore_n 3, 1) := by decide +kernel
theorem dX11_comes_74 : decode cX11_comes 74 = .ok (.iinc 4 1, 3) := by decide +kernel
theorem dX11_comes_77 : decode cX11_comes 77 = .ok (.goto (-29), 3) := by decide +kernel
theorem dX11_comes_80 : decode cX11_comes 80 = .ok (.iconst 0, 1) := by decide +kernel
theorem dX11_comes_81 : decode cX11_comes 81 = .ok (.istore 4, 2) := by decide +kernel
theorem dX11_comes_83 : decode cX11_comes 83 = .ok (.iconst 0, 1) := by decide +kernel
theorem dX11_comes_84 : decode cX11_comes 84 = .ok (.istore 5, 2) := by decide +kernel
theorem dX11_comes_86 : decode cX11_comes 86 = .ok (.iconst 0, 1) := by decide +kernel
theorem dX11_comes_87 : decode cX11_comes 87 = .ok (.istore 6, 2) := by decide +kernel
theorem dX11_comes_89 : decode cX11_comes 89 = .ok (.iload 6, 2) := by decide +kernel
theorem dX11_comes_91 : decode cX11_comes 91 = .ok (.aload_n 0, 1) := by decide +kernel
theorem dX11_comes_92 : decode cX11_comes 92 = .ok (.getfield 345, 3) := by decide +kernel
theorem dX11_comes_95 : decode cX11_comes 95 = .ok (.if_icmp .ge 62, 3) := by decide +kernel
theorem dX11_comes_98 : decode cX11_comes 98 = .ok (.aload_n 0, 1) := by decide +kernel
theorem dX11_comes_99 : decode cX11_comes 99 = .ok (.aload_n 0, 1) := by decide +kernel
theorem dX11_comes_100 : decode cX11_comes 100 = .ok (.getfield 69, 3) := by decide +kernel
theorem dX11_comes_103 : decode cX11_comes 103 = .ok (.iload 6, 2) := by decide +kernel
theorem dX11_comes_105 : decode cX11_comes 105 = .ok (.iaload, 1) := by decide +kernel
theorem dX11_comes_106 : decode cX11_comes 106 = .ok (.invokevirtual 312, 3) := by decide +kernel
theorem dX11_comes_109 : decode cX11_comes 109 = .ok (.iconst 2, 1) := by decide +kernel
theorem dX11_comes_110 : decode cX11_comes 110 = .ok (.if_icmp .ne 7, 3) := by decide +kernel
theorem dX11_comes_113 : decode cX11_comes 113 = .ok (.iconst 1, 1) := by decide +kernel
theorem dX11_comes_114 : decode cX11_comes 114 = .ok (.goto 5, 3) := by decide +kernel
theorem dX11_comes_117 : decode cX11_comes 117 = .ok (.iload 4, 2) := by decide +kernel
theorem dX11_comes_119 : decode cX11_comes 119 = .ok (.istore 4, 2) := by decide +kernel
theorem dX11_comes_121 : decode cX11_comes 121 = .ok (.iload 5, 2) := by decide +kernel
theorem dX11_comes_123 : decode cX11_comes 123 = .ok (.iconst 1, 1) := by decide +kernel
theorem dX11_comes_124 : decode cX11_comes 124 = .ok (.aload_n 0, 1) := by decide +kernel
theorem dX11_comes_125 : decode cX11_comes 125 = .ok (.getfield 69, 3) := by decide +kernel
theorem dX11_comes_128 : decode cX11_comes 128 = .ok (.iload 6, 2) := by decide +kernel
theorem dX11_comes_130 : decode cX11_comes 130 = .ok (.iaload, 1) := by decide +kernel
theorem dX11_comes_131 : decode cX11_comes 131 = .ok (.invokestatic 271, 3) := by decide +kernel
theorem dX11_comes_134 : decode cX11_comes 134 = .ok (.ishl, 1) := by decide +kernel
theorem dX11_comes_135 : decode cX11_comes 135 = .ok (.iconst 1, 1) := by decide +kernel
theorem dX11_comes_136 : decode cX11_comes 136 = .ok (.aload_n 0, 1) := by decide +kernel
theorem dX11_comes_137 : decode cX11_comes 137 = .ok (.getfield 69, 3) := by decide +kernel
theorem dX11_comes_140 : decode cX11_comes 140 = .ok (.iload 6, 2) := by decide +kernel
theorem dX11_comes_142 : decode cX11_comes 142 = .ok (.iaload, 1) := by decide +kernel
theorem dX11_comes_143 : decode cX11_comes 143 = .ok (.invokestatic 274, 3) := by decide +kernel
theorem dX11_comes_146 : decode cX11_comes 146 = .ok (.ishl, 1) := by decide +kernel
theorem dX11_comes_147 : decode cX11_comes 147 = .ok (.ior, 1) := by decide +kernel
theorem dX11_comes_148 : decode cX11_comes 148 = .ok (.ior, 1) := by decide +kernel
theorem dX11_comes_149 : decode cX11_comes 149 = .ok (.istore 5, 2) := by decide +kernel
theorem dX11_comes_151 : decode cX11_comes 151 = .ok (.iinc 6 1, 3) := by decide +kernel
theorem dX11_comes_154 : decode cX11_comes 154 = .ok (.goto (-65), 3) := by decide +kernel
theorem dX11_comes_157 : decode cX11_comes 157 = .ok (.iload_n 2, 1) := by decide +kernel
theorem dX11_comes_158 : decode cX11_comes 158 = .ok (.ifCond .ne 10, 3) := by decide +kernel
theorem dX11_comes_161 : decode cX11_comes 161 = .ok (.aload_n 0, 1) := by decide +kernel
theorem dX11_comes_162 : decode cX11_comes 162 = .ok (.getfield 345, 3) := by decide +kernel
theorem dX11_comes_165 : decode cX11_comes 165 = .ok (.goto 44, 3) := by decide +kernel
theorem dX11_comes_168 : decode cX11_comes 168 = .ok (.iload_n 2, 1) := by decide +kernel
theorem dX11_comes_169 : decode cX11_comes 169 = .ok (.iconst 1, 1) := by decide +kernel
theorem dX11_comes_170 : decode cX11_comes 170 = .ok (.if_icmp .ne 7, 3) := by decide +kernel
theorem dX11_comes_173 : decode cX11_comes 173 = .ok (.iload_n 3, 1) := by decide +kernel
theorem dX11_comes_174 : decode cX11_comes 174 = .ok (.goto 35, 3) := by decide +kernel
theorem dX11_comes_177 : decode cX11_comes 177 = .ok (.iload_n 2, 1) := by decide +kernel
theorem dX11_comes_178 : decode cX11_comes 178 = .ok (.iconst 2, 1) := by decide +kernel
theorem dX11_comes_179 : decode cX11_comes 179 = .ok (.if_icmp .ne 8, 3) := by decide +kernel
theorem dX11_comes_182 : decode cX11_comes 182 = .ok (.iload 4, 2) := by decide +kernel
theorem dX11_comes_184 : decode cX11_comes 184 = .ok (.goto 25, 3) := by decide +kernel
theorem dX11_comes_187 : decode cX11_comes 187 = .ok (.iload_n 2, 1) := by decide +kernel
theorem dX11_comes_188 : decode cX11_comes 188 = .ok (.iconst 3, 1) := by decide +kernel
theorem dX11_comes_189 : decode cX11_comes 189 = .ok (.if_icmp .ne 18, 3) := by decide +kernel
theorem dX11_comes_192 : decode cX11_comes 192 = .ok (.aload_n 0, 1) := by decide +kernel
theorem dX11_comes_193 : decode cX11_comes 193 = .ok (.invokevirtual 364, 3) := by decide +kernel
theorem dX11_comes_196 : decode cX11_comes 196 = .ok (.ifCond .eq 7, 3) := by decide +kernel
theorem dX11_comes_199 : decode cX11_comes 199 = .ok (.iconst 1, 1) := by decide +kernel
theorem dX11_comes_200 : decode cX11_comes 200 = .ok (.goto 9, 3) := by decide +kernel
theorem dX11_comes_203 : decode cX11_comes 203 = .ok (.iconst 0, 1) := by decide +kernel
theorem dX11_comes_204 : decode cX11_comes 204 = .ok (.goto 5, 3) := by decide +kernel
theorem dX11_comes_207 : decode cX11_comes 207 = .ok (.iload 5, 2) := by decide +kernel
theorem dX11_comes_209 : decode cX11_comes 209 = .ok (.ireturn, 1) := by decide +kernel
theorem dX11_findEnds_0 : decode cX11_findEnds 0 = .ok (.iconst 0, 1) := by decide +kernel
theorem dX11_findEnds_1 : decode cX11_findEnds 1 = .ok (.istore_n 1, 1) := by decide +kernel
theorem dX11_findEnds_2 : decode cX11_findEnds 2 = .ok (.iload_n 1, 1) := by decide +kernel
theorem dX11_findEnds_3 : decode cX11_findEnds 3 = .ok (.sipush 1600, 3) := by decide +kernel
theorem dX11_findEnds_6 : decode cX11_findEnds 6 = .ok (.if_icmp .ge 16, 3) := by decide +kernel
theorem dX11_findEnds_9 : decode cX11_findEnds 9 = .ok (.aload_n 0, 1) := by decide +kernel
theorem dX11_findEnds_10 : decode cX11_findEnds 10 = .ok (.getfield 91, 3) := by decide +kernel
theorem dX11_findEnds_13 : decode cX11_findEnds 13 = .ok (.iload_n 1, 1) := by decide +kernel
theorem dX11_findEnds_14 : decode cX11_findEnds 14 = .ok (.iconst 0, 1) := by decide +kernel
theorem dX11_findEnds_15 : decode cX11_findEnds 15 = .ok (.bastore, 1) := by decide +kernel
theorem dX11_findEnds_16 : decode cX11_findEnds 16 = .ok (.iinc 1 1, 3) := by decide +kernel
theorem dX11_findEnds_19 : decode cX11_findEnds 19 = .ok (.goto (-17), 3) := by decide +kernel
theorem dX11_findEnds_22 : decode cX11_findEnds 22 = .ok (.iconst 0, 1) := by decide +kernel
theorem dX11_findEnds_23 : decode cX11_findEnds 23 = .ok (.istore_n 1, 1) := by decide +kernel
theorem dX11_findEnds_24 : decode cX11_findEnds 24 = .ok (.iload_n 1, 1) := by decide +kernel
theorem dX11_findEnds_25 : decode cX11_findEnds 25 = .ok (.aload_n 0, 1) := by decide +kernel
theorem dX11_findEnds_26 : decode cX11_findEnds 26 = .ok (.getfield 345, 3) := by decide +kernel
theorem dX11_findEnds_29 : decode cX11_findEnds 29 = .ok (.if_icmp .ge 50, 3) := by decide +kernel
theorem dX11_findEnds_32 : decode cX11_findEnds 32 = .ok (.aload_n 0, 1) := by decide +kernel
theorem dX11_findEnds_33 : decode cX11_findEnds 33 = .ok (.aload_n 0, 1) := by decide +kernel
theorem dX11_findEnds_34 : decode cX11_findEnds 34 = .ok (.getfield 69, 3) := by decide +kernel
theorem dX11_findEnds_37 : decode cX11_findEnds 37 = .ok (.iload_n 1, 1) := by decide +kernel
theorem dX11_findEnds_38 : decode cX11_findEnds 38 = .ok (.iaload, 1) := by decide +kernel
theorem dX11_findEnds_39 : decode cX11_findEnds 39 = .ok (.invokevirtual 303, 3) := by decide +kernel
theorem dX11_findEnds_42 : decode cX11_findEnds 42 = .ok (.ifCond .eq 31, 3) := by decide +kernel
theorem dX11_findEnds_45 : decode cX11_findEnds 45 = .ok (.aload_n 0, 1) := by decide +kernel
theorem dX11_findEnds_46 : decode cX11_findEnds 46 = .ok (.getfield 91, 3) := by decide +kernel
theorem dX11_findEnds_49 : decode cX11_findEnds 49 = .ok (.bipush 100, 2) := by decide +kernel
theorem dX11_findEnds_51 : decode cX11_findEnds 51 = .ok (.aload_n 0, 1) := by decide +kernel
theorem dX11_findEnds_52 : decode cX11_findEnds 52 = .ok (.getfield 69, 3) := by decide +kernel
theorem dX11_findEnds_55 : decode cX11_findEnds 55 = .ok (.iload_n 1, 1) := by decide +kernel
theorem dX11_findEnds_56 : decode cX11_findEnds 56 = .ok (.iaload, 1) := by decide +kernel
theorem dX11_findEnds_57 : decode cX11_findEnds 57 = .ok (.invokestatic 271, 3) := by decide +kernel
theorem dX11_findEnds_60 : decode cX11_findEnds 60 = .ok (.imul, 1) := by decide +kernel
theorem dX11_findEnds_61 : decode cX11_findEnds 61 = .ok (.aload_n 0, 1) := by decide +kernel
theorem dX11_findEnds_62 : decode cX11_findEnds 62 = .ok (.getfield 69, 3) := by decide +kernel
theorem dX11_findEnds_65 : decode cX11_findEnds 65 = .ok (.iload_n 1, 1) := by decide +kernel
theorem dX11_findEnds_66 : decode cX11_findEnds 66 = .ok (.iaload, 1) := by decide +kernel
theorem dX11_findEnds_67 : decode cX11_findEnds 67 = .ok (.invokestatic 274, 3) := by decide +kernel
theorem dX11_findEnds_70 : decode cX11_findEnds 70 = .ok (.iadd, 1) := by decide +kernel
theorem dX11_findEnds_71 : decode cX11_findEnds 71 = .ok (.iconst 1, 1) := by decide +kernel
theorem dX11_findEnds_72 : decode cX11_findEnds 72 = .ok (.bastore, 1) := by decide +kernel
theorem dX11_findEnds_73 : decode cX11_findEnds 73 = .ok (.iinc 1 1, 3) := by decide +kernel
theorem dX11_findEnds_76 : decode cX11_findEnds 76 = .ok (.goto (-52), 3) := by decide +kernel
theorem dX11_findEnds_79 : decode cX11_findEnds 79 = .ok (.return_, 1) := by decide +kernel
theorem dX11_end_0 : decode cX11_end 0 = .ok (.aload_n 0, 1) := by decide +kernel
theorem dX11_end_1 : decode cX11_end 1 = .ok (.iload_n 1, 1) := by decide +kernel
theorem dX11_end_2 : decode cX11_end 2 = .ok (.invokevirtual 309, 3) := by decide +kernel
theorem dX11_end_5 : decode cX11_end 5 = .ok (.ifCond .ne 7, 3) := by decide +kernel
theorem dX11_end_8 : decode cX11_end 8 = .ok (.sipush (-1001), 3) := by decide +kernel
theorem dX11_end_11 : decode cX11_end 11 = .ok (.ireturn, 1) := by decide +kernel
theorem dX11_end_12 : decode cX11_end 12 = .ok (.aload_n 0, 1) := by decide +kernel
theorem dX11_end_13 : decode cX11_end 13 = .ok (.aload_n 0, 1) := by decide +kernel
theorem dX11_end_14 : decode cX11_end 14 = .ok (.getfield 31, 3) := by decide +kernel
theorem dX11_end_17 : decode cX11_end 17 = .ok (.iload_n 1, 1) := by decide +kernel
theorem dX11_end_18 : decode cX11_end 18 = .ok (.iaload, 1) := by decide +kernel
theorem dX11_end_19 : decode cX11_end 19 = .ok (.iconst 0, 1) := by decide +kernel
theorem dX11_end_20 : decode cX11_end 20 = .ok (.invokevirtual 357, 3) := by decide +kernel
theorem dX11_end_23 : decode cX11_end 23 = .ok (.aload_n 0, 1) := by decide +kernel
theorem dX11_end_24 : decode cX11_end 24 = .ok (.invokevirtual 361, 3) := by decide +kernel
theorem dX11_end_27 : decode cX11_end 27 = .ok (.iconst 0, 1) := by decide +kernel
theorem dX11_end_28 : decode cX11_end 28 = .ok (.istore_n 3, 1) := by decide +kernel
theorem dX11_end_29 : decode cX11_end 29 = .ok (.iconst 0, 1) := by decide +kernel
theorem dX11_end_30 : decode cX11_end 30 = .ok (.istore 4, 2) := by decide +kernel
theorem dX11_end_32 : decode cX11_end 32 = .ok (.iload 4, 2) := by decide +kernel
theorem dX11_end_34 : decode cX11_end 34 = .ok (.sipush 1600, 3) := by decide +kernel
theorem dX11_end_37 : decode cX11_end 37 = .ok (.if_icmp .ge 30, 3) := by decide +kernel
theorem dX11_end_40 : decode cX11_end 40 = .ok (.aload_n 0, 1) := by decide +kernel
theorem dX11_end_41 : decode cX11_end 41 = .ok (.getfield 91, 3) := by decide +kernel
theorem dX11_end_44 : decode cX11_end 44 = .ok (.iload 4, 2) := by decide +kernel
theorem dX11_end_46 : decode cX11_end 46 = .ok (.baload, 1) := by decide +kernel
theorem dX11_end_47 : decode cX11_end 47 = .ok (.ifCond .eq 14, 3) := by decide +kernel
theorem dX11_end_50 : decode cX11_end 50 = .ok (.iload_n 3, 1) := by decide +kernel
theorem dX11_end_51 : decode cX11_end 51 = .ok (.iload_n 2, 1) := by decide +kernel
theorem dX11_end_52 : decode cX11_end 52 = .ok (.if_icmp .ne 6, 3) := by decide +kernel
theorem dX11_end_55 : decode cX11_end 55 = .ok (.iload 4, 2) := by decide +kernel
theorem dX11_end_57 : decode cX11_end 57 = .ok (.ireturn, 1) := by decide +kernel
theorem dX11_end_58 : decode cX11_end 58 = .ok (.iinc 3 1, 3) := by decide +kernel
theorem dX11_end_61 : decode cX11_end 61 = .ok (.iinc 4 1, 3) := by decide +kernel
theorem dX11_end_64 : decode cX11_end 64 = .ok (.goto (-32), 3) := by decide +kernel
theorem dX11_end_67 : decode cX11_end 67 = .ok (.iconst (-1), 1) := by decide +kernel
theorem dX11_end_68 : decode cX11_end 68 = .ok (.ireturn, 1) := by decide +kernel
theorem dX11_takeGrudges_0 : decode cX11_takeGrudges 0 = .ok (.iconst 0, 1) := by decide +kernel
theorem dX11_takeGrudges_1 : decode cX11_takeGrudges 1 = .ok (.istore_n 2, 1) := by decide +kernel
theorem dX11_takeGrudges_2 : decode cX11_takeGrudges 2 = .ok (.iload_n 2, 1) := by decide +kernel
theorem dX11_takeGrudges_3 : decode cX11_takeGrudges 3 = .ok (.sipush 256, 3) := by decide +kernel
theorem dX11_takeGrudges_6 : decode cX11_takeGrudges 6 = .ok (.if_icmp .ge 16, 3) := by decide +kernel
theorem dX11_takeGrudges_9 : decode cX11_takeGrudges 9 = .ok (.aload_n 0, 1) := by decide +kernel
theorem dX11_takeGrudges_10 : decode cX11_takeGrudges 10 = .ok (.getfield 98, 3) := by decide +kernel
theorem dX11_takeGrudges_13 : decode cX11_takeGrudges 13 = .ok (.iload_n 2, 1) := by decide +kernel
theorem dX11_takeGrudges_14 : decode cX11_takeGrudges 14 = .ok (.iconst 0, 1) := by decide +kernel
theorem dX11_takeGrudges_15 : decode cX11_takeGrudges 15 = .ok (.bastore, 1) := by decide +kernel
theorem dX11_takeGrudges_16 : decode cX11_takeGrudges 16 = .ok (.iinc 2 1, 3) := by decide +kernel
theorem dX11_takeGrudges_19 : decode cX11_takeGrudges 19 = .ok (.goto (-17), 3) := by decide +kernel
theorem dX11_takeGrudges_22 : decode cX11_takeGrudges 22 = .ok (.iconst 0, 1) := by decide +kernel
theorem dX11_takeGrudges_23 : decode cX11_takeGrudges 23 = .ok (.istore_n 2, 1) := by decide +kernel
theorem dX11_takeGrudges_24 : decode cX11_takeGrudges 24 = .ok (.iload_n 2, 1) := by decide +kernel
theorem dX11_takeGrudges_25 : decode cX11_takeGrudges 25 = .ok (.aload_n 0, 1) := by decide +kernel
theorem dX11_takeGrudges_26 : decode cX11_takeGrudges 26 = .ok (.getfield 243, 3) := by decide +kernel
theorem dX11_takeGrudges_29 : decode cX11_takeGrudges 29 = .ok (.if_icmp .ge 85, 3) := by decide +kernel
theorem dX11_takeGrudges_32 : decode cX11_takeGrudges 32 = .ok (.iload_n 2, 1) := by decide +kernel
theorem dX11_takeGrudges_33 : decode cX11_takeGrudges 33 = .ok (.bipush 30, 2) := by decide +kernel
theorem dX11_takeGrudges_35 : decode cX11_takeGrudges 35 = .ok (.if_icmp .gt 11, 3) := by decide +kernel
theorem dX11_takeGrudges_38 : decode cX11_takeGrudges 38 = .ok (.iload_n 1, 1) := by decide +kernel
theorem dX11_takeGrudges_39 : decode cX11_takeGrudges 39 = .ok (.iload_n 2, 1) := by decide +kernel
theorem dX11_takeGrudges_40 : decode cX11_takeGrudges 40 = .ok (.invokestatic 287, 3) := by decide +kernel
theorem dX11_takeGrudges_43 : decode cX11_takeGrudges 43 = .ok (.ifCond .ne 7, 3) := by decide +kernel
theorem dX11_takeGrudges_46 : decode cX11_takeGrudges 46 = .ok (.iconst 1, 1) := by decide +kernel
theorem dX11_takeGrudges_47 : decode cX11_takeGrudges 47 = .ok (.goto 4, 3) := by decide +kernel
theorem dX11_takeGrudges_50 : decode cX11_takeGrudges 50 = .ok (.iconst 0, 1) := by decide +kernel
theorem dX11_takeGrudges_51 : decode cX11_takeGrudges 51 = .ok (.istore_n 3, 1) := by decide +kernel
theorem dX11_takeGrudges_52 : decode cX11_takeGrudges 52 = .ok (.aload_n 0, 1) := by decide +kernel
theorem dX11_takeGrudges_53 : decode cX11_takeGrudges 53 = .ok (.getfield 98, 3) := by decide +kernel
theorem dX11_takeGrudges_56 : decode cX11_takeGrudges 56 = .ok (.bipush 16, 2) := by decide +kernel
theorem dX11_takeGrudges_58 : decode cX11_takeGrudges 58 = .ok (.aload_n 0, 1) := by decide +kernel
theorem dX11_takeGrudges_59 : decode cX11_takeGrudges 59 = .ok (.getfield 22, 3) := by decide +kernel
theorem dX11_takeGrudges_62 : decode cX11_takeGrudges 62 = .ok (.iload_n 2, 1) := by decide +kernel
theorem dX11_takeGrudges_63 : decode cX11_takeGrudges 63 = .ok (.iaload, 1) := by decide +kernel
theorem dX11_takeGrudges_64 : decode cX11_takeGrudges 64 = .ok (.bipush 100, 2) := by decide +kernel
theorem dX11_takeGrudges_66 : decode cX11_takeGrudges 66 = .ok (.idiv, 1) := by decide +kernel
theorem dX11_takeGrudges_67 : decode cX11_takeGrudges 67 = .ok (.imul, 1) := by decide +kernel
theorem dX11_takeGrudges_68 : decode cX11_takeGrudges 68 = .ok (.aload_n 0, 1) := by decide +kernel
theorem dX11_takeGrudges_69 : decode cX11_takeGrudges 69 = .ok (.getfield 22, 3) := by decide +kernel
theorem dX11_takeGrudges_72 : decode cX11_takeGrudges 72 = .ok (.iload_n 2, 1) := by decide +kernel
theorem dX11_takeGrudges_73 : decode cX11_takeGrudges 73 = .ok (.iaload, 1) := by decide +kernel
theorem dX11_takeGrudges_74 : decode cX11_takeGrudges 74 = .ok (.bipush 100, 2) := by decide +kernel
theorem dX11_takeGrudges_76 : decode cX11_takeGrudges 76 = .ok (.irem, 1) := by decide +kernel
theorem dX11_takeGrudges_77 : decode cX11_takeGrudges 77 = .ok (.iadd, 1) := by decide +kernel
theorem dX11_takeGrudges_78 : decode cX11_takeGrudges 78 = .ok (.iload_n 3, 1) := by decide +kernel
theorem dX11_takeGrudges_79 : decode cX11_takeGrudges 79 = .ok (.bastore, 1) := by decide +kernel
theorem dX11_takeGrudges_80 : decode cX11_takeGrudges 80 = .ok (.aload_n 0, 1) := by decide +kernel
theorem dX11_takeGrudges_81 : decode cX11_takeGrudges 81 = .ok (.getfield 98, 3) := by decide +kernel
theorem dX11_takeGrudges_84 : decode cX11_takeGrudges 84 = .ok (.bipush 16, 2) := by decide +kernel
theorem dX11_takeGrudges_86 : decode cX11_takeGrudges 86 = .ok (.aload_n 0, 1) := by decide +kernel
theorem dX11_takeGrudges_87 : decode cX11_takeGrudges 87 = .ok (.getfield 22, 3) := by decide +kernel
theorem dX11_takeGrudges_90 : decode cX11_takeGrudges 90 = .ok (.iload_n 2, 1) := by decide +kernel
theorem dX11_takeGrudges_91 : decode cX11_takeGrudges 91 = .ok (.iaload, 1) := by decide +kernel
theorem dX11_takeGrudges_92 : decode cX11_takeGrudges 92 = .ok (.bipush 100, 2) := by decide +kernel
theorem dX11_takeGrudges_94 : decode cX11_takeGrudges 94 = .ok (.irem, 1) := by decide +kernel
theorem dX11_takeGrudges_95 : decode cX11_takeGrudges 95 = .ok (.imul, 1) := by decide +kernel
theorem dX11_takeGrudges_96 : decode cX11_takeGrudges 96 = .ok (.aload_n 0, 1) := by decide +kernel
theorem dX11_takeGrudges_97 : decode cX11_takeGrudges 97 = .ok (.getfield 22, 3) := by decide +kernel
theorem dX11_takeGrudges_100 : decode cX11_takeGrudges 100 = .ok (.iload_n 2, 1) := by decide +kernel
theorem dX11_takeGrudges_101 : decode cX11_takeGrudges 101 = .ok (.iaload, 1) := by decide +kernel
theorem dX11_takeGrudges_102 : decode cX11_takeGrudges 102 = .ok (.bipush 100, 2) := by decide +kernel
theorem dX11_takeGrudges_104 : decode cX11_takeGrudges 104 = .ok (.idiv, 1) := by decide +kernel
theorem dX11_takeGrudges_105 : decode cX11_takeGrudges 105 = .ok (.iadd, 1) := by decide +kernel
theorem dX11_takeGrudges_106 : decode cX11_takeGrudges 106 = .ok (.iload_n 3, 1) := by decide +kernel
theorem dX11_takeGrudges_107 : decode cX11_takeGrudges 107 = .ok (.bastore, 1) := by decide +kernel
theorem dX11_takeGrudges_108 : decode cX11_takeGrudges 108 = .ok (.iinc 2 1, 3) := by decide +kernel
theorem dX11_takeGrudges_111 : decode cX11_takeGrudges 111 = .ok (.goto (-87), 3) := by decide +kernel
theorem dX11_takeGrudges_114 : decode cX11_takeGrudges 114 = .ok (.return_, 1) := by decide +kernel
theorem dX11_solve_0 : decode cX11_solve 0 = .ok (.iconst 0, 1) := by decide +kernel
theorem dX11_solve_1 : decode cX11_solve 1 = .ok (.istore_n 2, 1) := by decide +kernel
theorem dX11_solve_2 : decode cX11_solve 2 = .ok (.iconst 0, 1) := by decide +kernel
theorem dX11_solve_3 : decode cX11_solve 3 = .ok (.istore_n 3, 1) := by decide +kernel
theorem dX11_solve_4 : decode cX11_solve 4 = .ok (.iload_n 3, 1) := by decide +kernel
theorem dX11_solve_5 : decode cX11_solve 5 = .ok (.aload_n 0, 1) := by decide +kernel
theorem dX11_solve_6 : decode cX11_solve 6 = .ok (.getfield 345, 3) := by decide +kernel
theorem dX11_solve_9 : decode cX11_solve 9 = .ok (.if_icmp .ge 75, 3) := by decide +kernel
theorem dX11_solve_12 : decode cX11_solve 12 = .ok (.aload_n 0, 1) := by decide +kernel
theorem dX11_solve_13 : decode cX11_solve 13 = .ok (.getfield 85, 3) := by decide +kernel
theorem dX11_solve_16 : decode cX11_solve 16 = .ok (.iload_n 3, 1) := by decide +kernel
theorem dX11_solve_17 : decode cX11_solve 17 = .ok (.aload_n 0, 1) := by decide +kernel
theorem dX11_solve_18 : decode cX11_solve 18 = .ok (.getfield 75, 3) := by decide +kernel
theorem dX11_solve_21 : decode cX11_solve 21 = .ok (.iload_n 3, 1) := by decide +kernel
theorem dX11_solve_22 : decode cX11_solve 22 = .ok (.iaload, 1) := by decide +kernel
theorem dX11_solve_23 : decode cX11_solve 23 = .ok (.iastore, 1) := by decide +kernel
theorem dX11_solve_24 : decode cX11_solve 24 = .ok (.aload_n 0, 1) := by decide +kernel
theorem dX11_solve_25 : decode cX11_solve 25 = .ok (.getfield 95, 3) := by decide +kernel
theorem dX11_solve_28 : decode cX11_solve 28 = .ok (.iload_n 3, 1) := by decide +kernel
theorem dX11_solve_29 : decode cX11_solve 29 = .ok (.iconst (-1), 1) := by decide +kernel
theorem dX11_solve_30 : decode cX11_solve 30 = .ok (.iastore, 1) := by decide +kernel
theorem dX11_solve_31 : decode cX11_solve 31 = .ok (.aload_n 0, 1) := by decide +kernel
theorem dX11_solve_32 : decode cX11_solve 32 = .ok (.getfield 98, 3) := by decide +kernel
theorem dX11_solve_35 : decode cX11_solve 35 = .ok (.bipush 16, 2) := by decide +kernel
theorem dX11_solve_37 : decode cX11_solve 37 = .ok (.aload_n 0, 1) := by decide +kernel
theorem dX11_solve_38 : decode cX11_solve 38 = .ok (.getfield 69, 3) := by decide +kernel
theorem dX11_solve_41 : decode cX11_solve 41 = .ok (.iload_n 3, 1) := by decide +kernel
theorem dX11_solve_42 : decode cX11_solve 42 = .ok (.iaload, 1) := by decide +kernel
theorem dX11_solve_43 : decode cX11_solve 43 = .ok (.invokestatic 271, 3) := by decide +kernel
theorem dX11_solve_46 : decode cX11_solve 46 = .ok (.imul, 1) := by decide +kernel
theorem dX11_solve_47 : decode cX11_solve 47 = .ok (.aload_n 0, 1) := by decide +kernel
theorem dX11_solve_48 : decode cX11_solve 48 = .ok (.getfield 69, 3) := by decide +kernel
theorem dX11_solve_51 : decode cX11_solve 51 = .ok (.iload_n 3, 1) := by decide +kernel
theorem dX11_solve_52 : decode cX11_solve 52 = .ok (.iaload, 1) := by decide +kernel
theorem dX11_solve_53 : decode cX11_solve 53 = .ok (.invokestatic 274, 3) := by decide +kernel
theorem dX11_solve_56 : decode cX11_solve 56 = .ok (.iadd, 1) := by decide +kernel
theorem dX11_solve_57 : decode cX11_solve 57 = .ok (.baload, 1) := by decide +kernel
theorem dX11_solve_58 : decode cX11_solve 58 = .ok (.ifCond .ne 20, 3) := by decide +kernel
theorem dX11_solve_61 : decode cX11_solve 61 = .ok (.aload_n 0, 1) := by decide +kernel
theorem dX11_solve_62 : decode cX11_solve 62 = .ok (.getfield 95, 3) := by decide +kernel
theorem dX11_solve_65 : decode cX11_solve 65 = .ok (.iload_n 3, 1) := by decide +kernel
theorem dX11_solve_66 : decode cX11_solve 66 = .ok (.iconst 0, 1) := by decide +kernel
theorem dX11_solve_67 : decode cX11_solve 67 = .ok (.iastore, 1) := by decide +kernel
theorem dX11_solve_68 : decode cX11_solve 68 = .ok (.aload_n 0, 1) := by decide +kernel
theorem dX11_solve_69 : decode cX11_solve 69 = .ok (.getfield 88, 3) := by decide +kernel
theorem dX11_solve_72 : decode cX11_solve 72 = .ok (.iload_n 2, 1) := by decide +kernel
theorem dX11_solve_73 : decode cX11_solve 73 = .ok (.iload_n 3, 1) := by decide +kernel
theorem dX11_solve_74 : decode cX11_solve 74 = .ok (.iastore, 1) := by decide +kernel
theorem dX11_solve_75 : decode cX11_solve 75 = .ok (.iinc 2 1, 3) := by decide +kernel
theorem dX11_solve_78 : decode cX11_solve 78 = .ok (.iinc 3 1, 3) := by decide +kernel
theorem dX11_solve_81 : decode cX11_solve 81 = .ok (.goto (-77), 3) := by decide +kernel
theorem dX11_solve_84 : decode cX11_solve 84 = .ok (.iconst 0, 1) := by decide +kernel
theorem dX11_solve_85 : decode cX11_solve 85 = .ok (.istore_n 3, 1) := by decide +kernel
theorem dX11_solve_86 : decode cX11_solve 86 = .ok (.iload_n 3, 1) := by decide +kernel
theorem dX11_solve_87 : decode cX11_solve 87 = .ok (.iload_n 2, 1) := by decide +kernel
theorem dX11_solve_88 : decode cX11_solve 88 = .ok (.if_icmp .ge 124, 3) := by decide +kernel
theorem dX11_solve_91 : decode cX11_solve 91 = .ok (.aload_n 0, 1) := by decide +kernel
theorem dX11_solve_92 : decode cX11_solve 92 = .ok (.getfield 72, 3) := by decide +kernel
theorem dX11_solve_95 : decode cX11_solve 95 = .ok (.aload_n 0, 1) := by decide +kernel
theorem dX11_solve_96 : decode cX11_solve 96 = .ok (.getfield 88, 3) := by decide +kernel
theorem dX11_solve_99 : decode cX11_solve 99 = .ok (.iload_n 3, 1) := by decide +kernel
theorem dX11_solve_100 : decode cX11_solve 100 = .ok (.iaload, 1) := by decide +kernel
theorem dX11_solve_101 : decode cX11_solve 101 = .ok (.iaload, 1) := by decide +kernel
theorem dX11_solve_102 : decode cX11_solve 102 = .ok (.istore 4, 2) := by decide +kernel
theorem dX11_solve_104 : decode cX11_solve 104 = .ok (.iload 4, 2) := by decide +kernel
theorem dX11_solve_106 : decode cX11_solve 106 = .ok (.ifCond .lt 100, 3) := by decide +kernel
theorem dX11_solve_109 : decode cX11_solve 109 = .ok (.aload_n 0, 1) := by decide +kernel
theorem dX11_solve_110 : decode cX11_solve 110 = .ok (.getfield 79, 3) := by decide +kernel
theorem dX11_solve_113 : decode cX11_solve 113 = .ok (.iload 4, 2) := by decide +kernel
theorem dX11_solve_115 : decode cX11_solve 115 = .ok (.iaload, 1) := by decide +kernel
theorem dX11_solve_116 : decode cX11_solve 116 = .ok (.istore 5, 2) := by decide +kernel
theorem dX11_solve_118 : decode cX11_solve 118 = .ok (.aload_n 0, 1) := by decide +kernel
theorem dX11_solve_119 : decode cX11_solve 119 = .ok (.getfield 85, 3) := by decide +kernel
theorem dX11_solve_122 : decode cX11_solve 122 = .ok (.iload 5, 2) := by decide +kernel
theorem dX11_solve_124 : decode cX11_solve 124 = .ok (.dup2, 1) := by decide +kernel
theorem dX11_solve_125 : decode cX11_solve 125 = .ok (.iaload, 1) := by decide +kernel
theorem dX11_solve_126 : decode cX11_solve 126 = .ok (.iconst 1, 1) := by decide +kernel
theorem dX11_solve_127 : decode cX11_solve 127 = .ok (.isub, 1) := by decide +kernel
theorem dX11_solve_128 : decode cX11_solve 128 = .ok (.iastore, 1) := by decide +kernel
theorem dX11_solve_129 : decode cX11_solve 129 = .ok (.aload_n 0, 1) := by decide +kernel
theorem dX11_solve_130 : decode cX11_solve 130 = .ok (.getfield 95, 3) := by decide +kernel
theorem dX11_solve_133 : decode cX11_solve 133 = .ok (.iload 5, 2) := by decide +kernel
theorem dX11_solve_135 : decode cX11_solve 135 = .ok (.iaload, 1) := by decide +kernel
theorem dX11_solve_136 : decode cX11_solve 136 = .ok (.ifCond .ge 58, 3) := by decide +kernel
theorem dX11_solve_139 : decode cX11_solve 139 = .ok (.aload_n 0, 1) := by decide +kernel
theorem dX11_solve_140 : decode cX11_solve 140 = .ok (.getfield 85, 3) := by decide +kernel
theorem dX11_solve_143 : decode cX11_solve 143 = .ok (.iload 5, 2) := by decide +kernel
theorem dX11_solve_145 : decode cX11_solve 145 = .ok (.iaload, 1) := by decide +kernel
theorem dX11_solve_146 : decode cX11_solve 146 = .ok (.ifCond .eq 17, 3) := by decide +kernel
theorem dX11_solve_149 : decode cX11_solve 149 = .ok (.aload_n 0, 1) := by decide +kernel
theorem dX11_solve_150 : decode cX11_solve 150 = .ok (.getfield 69, 3) := by decide +kernel
theorem dX11_solve_153 : decode cX11_solve 153 = .ok (.iload 5, 2) := by decide +kernel
theorem dX11_solve_155 : decode cX11_solve 155 = .ok (.iaload, 1) := by decide +kernel
theorem dX11_solve_156 : decode cX11_solve 156 = .ok (.invokestatic 277, 3) := by decide +kernel
theorem dX11_solve_159 : decode cX11_solve 159 = .ok (.iload_n 1, 1) := by decide +kernel
theorem dX11_solve_160 : decode cX11_solve 160 = .ok (.if_icmp .ne 34, 3) := by decide +kernel
theorem dX11_solve_163 : decode cX11_solve 163 = .ok (.aload_n 0, 1) := by decide +kernel
theorem dX11_solve_164 : decode cX11_solve 164 = .ok (.getfield 95, 3) := by decide +kernel
theorem dX11_solve_167 : decode cX11_solve 167 = .ok (.iload 5, 2) := by decide +kernel
theorem dX11_solve_169 : decode cX11_solve 169 = .ok (.aload_n 0, 1) := by decide +kernel
theorem dX11_solve_170 : decode cX11_solve 170 = .ok (.getfield 95, 3) := by decide +kernel
theorem dX11_solve_173 : decode cX11_solve 173 = .ok (.aload_n 0, 1) := by decide +kernel
theorem dX11_solve_174 : decode cX11_solve 174 = .ok (.getfield 88, 3) := by decide +kernel
theorem dX11_solve_177 : decode cX11_solve 177 = .ok (.iload_n 3, 1) := by decide +kernel
theorem dX11_solve_178 : decode cX11_solve 178 = .ok (.iaload, 1) := by decide +kernel
theorem dX11_solve_179 : decode cX11_solve 179 = .ok (.iaload, 1) := by decide +kernel
theorem dX11_solve_180 : decode cX11_solve 180 = .ok (.iconst 1, 1) := by decide +kernel
theorem dX11_solve_181 : decode cX11_solve 181 = .ok (.iadd, 1) := by decide +kernel
theorem dX11_solve_182 : decode cX11_solve 182 = .ok (.iastore, 1) := by decide +kernel
theorem dX11_solve_183 : decode cX11_solve 183 = .ok (.aload_n 0, 1) := by decide +kernel
theorem dX11_solve_184 : decode cX11_solve 184 = .ok (.getfield 88, 3) := by decide +kernel
theorem dX11_solve_187 : decode cX11_solve 187 = .ok (.iload_n 2, 1) := by decide +kernel
theorem dX11_solve_188 : decode cX11_solve 188 = .ok (.iload 5, 2) := by decide +kernel
theorem dX11_solve_190 : decode cX11_solve 190 = .ok (.iastore, 1) := by decide +kernel
theorem dX11_solve_191 : decode cX11_solve 191 = .ok (.iinc 2 1, 3) := by decide +kernel
theorem dX11_solve_194 : decode cX11_solve 194 = .ok (.aload_n 0, 1) := by decide +kernel
theorem dX11_solve_195 : decode cX11_solve 195 = .ok (.getfield 82, 3) := by decide +kernel
theorem dX11_solve_198 : decode cX11_solve 198 = .ok (.iload 4, 2) := by decide +kernel
theorem dX11_solve_200 : decode cX11_solve 200 = .ok (.iaload, 1) := by decide +kernel
theorem dX11_solve_201 : decode cX11_solve 201 = .ok (.istore 4, 2) := by decide +kernel
theorem dX11_solve_203 : decode cX11_solve 203 = .ok (.goto (-99), 3) := by decide +kernel
theorem dX11_solve_206 : decode cX11_solve 206 = .ok (.iinc 3 1, 3) := by decide +kernel
theorem dX11_solve_209 : decode cX11_solve 209 = .ok (.goto (-123), 3) := by decide +kernel
theorem dX11_solve_212 : decode cX11_solve 212 = .ok (.return_, 1) := by decide +kernel
theorem dX11_forcesNow_0 : decode cX11_forcesNow 0 = .ok (.aload_n 0, 1) := by decide +kernel
theorem dX11_forcesNow_1 : decode cX11_forcesNow 1 = .ok (.aload_n 0, 1) := by decide +kernel
theorem dX11_forcesNow_2 : decode cX11_forcesNow 2 = .ok (.getfield 31, 3) := by decide +kernel
theorem dX11_forcesNow_5 : decode cX11_forcesNow 5 = .ok (.iload_n 1, 1) := by decide +kernel
theorem dX11_forcesNow_6 : decode cX11_forcesNow 6 = .ok (.iaload, 1) := by decide +kernel
theorem dX11_forcesNow_7 : decode cX11_forcesNow 7 = .ok (.iconst 1, 1) := by decide +kernel
theorem dX11_forcesNow_8 : decode cX11_forcesNow 8 = .ok (.invokevirtual 357, 3) := by decide +kernel
theorem dX11_forcesNow_11 : decode cX11_forcesNow 11 = .ok (.aload_n 0, 1) := by decide +kernel
theorem dX11_forcesNow_12 : decode cX11_forcesNow 12 = .ok (.iconst 0, 1) := by decide +kernel
theorem dX11_forcesNow_13 : decode cX11_forcesNow 13 = .ok (.invokevirtual 368, 3) := by decide +kernel
theorem dX11_forcesNow_16 : decode cX11_forcesNow 16 = .ok (.aload_n 0, 1) := by decide +kernel
theorem dX11_forcesNow_17 : decode cX11_forcesNow 17 = .ok (.iload_n 2, 1) := by decide +kernel
theorem dX11_forcesNow_18 : decode cX11_forcesNow 18 = .ok (.invokevirtual 372, 3) := by decide +kernel
theorem dX11_forcesNow_21 : decode cX11_forcesNow 21 = .ok (.aload_n 0, 1) := by decide +kernel
theorem dX11_forcesNow_22 : decode cX11_forcesNow 22 = .ok (.getfield 95, 3) := by decide +kernel
theorem dX11_forcesNow_25 : decode cX11_forcesNow 25 = .ok (.iconst 0, 1) := by decide +kernel
theorem dX11_forcesNow_26 : decode cX11_forcesNow 26 = .ok (.iaload, 1) := by decide +kernel
theorem dX11_forcesNow_27 : decode cX11_forcesNow 27 = .ok (.ireturn, 1) := by decide +kernel
theorem dX11_forces_0 : decode cX11_forces 0 = .ok (.aload_n 0, 1) := by decide +kernel
theorem dX11_forces_1 : decode cX11_forces 1 = .ok (.iload_n 1, 1) := by decide +kernel
theorem dX11_forces_2 : decode cX11_forces 2 = .ok (.invokevirtual 309, 3) := by decide +kernel
theorem dX11_forces_5 : decode cX11_forces 5 = .ok (.ifCond .ne 7, 3) := by decide +kernel
theorem dX11_forces_8 : decode cX11_forces 8 = .ok (.sipush (-1001), 3) := by decide +kernel
theorem dX11_forces_11 : decode cX11_forces 11 = .ok (.ireturn, 1) := by decide +kernel
theorem dX11_forces_12 : decode cX11_forces 12 = .ok (.iload_n 2, 1) := by decide +kernel
theorem dX11_forces_13 : decode cX11_forces 13 = .ok (.invokestatic 375, 3) := by decide +kernel
theorem dX11_forces_16 : decode cX11_forces 16 = .ok (.ifCond .eq 12, 3) := by decide +kernel
theorem dX11_forces_19 : decode cX11_forces 19 = .ok (.aload_n 0, 1) := by decide +kernel
theorem dX11_forces_20 : decode cX11_forces 20 = .ok (.iload_n 1, 1) := by decide +kernel
theorem dX11_forces_21 : decode cX11_forces 21 = .ok (.iload_n 2, 1) := by decide +kernel
theorem dX11_forces_22 : decode cX11_forces 22 = .ok (.invokevirtual 378, 3) := by decide +kernel
theorem dX11_forces_25 : decode cX11_forces 25 = .ok (.goto 6, 3) := by decide +kernel
theorem dX11_forces_28 : decode cX11_forces 28 = .ok (.sipush (-1002), 3) := by decide +kernel
theorem dX11_forces_31 : decode cX11_forces 31 = .ok (.ireturn, 1) := by decide +kernel
theorem dX11_best_0 : decode cX11_best 0 = .ok (.aload_n 0, 1) := by decide +kernel
theorem dX11_best_1 : decode cX11_best 1 = .ok (.iload_n 1, 1) := by decide +kernel
theorem dX11_best_2 : decode cX11_best 2 = .ok (.invokevirtual 309, 3) := by decide +kernel
theorem dX11_best_5 : decode cX11_best 5 = .ok (.ifCond .ne 7, 3) := by decide +kernel
theorem dX11_best_8 : decode cX11_best 8 = .ok (.sipush (-1001), 3) := by decide +kernel
theorem dX11_best_11 : decode cX11_best 11 = .ok (.ireturn, 1) := by decide +kernel
theorem dX11_best_12 : decode cX11_best 12 = .ok (.iload_n 2, 1) := by decide +kernel
theorem dX11_best_13 : decode cX11_best 13 = .ok (.invokestatic 375, 3) := by decide +kernel
theorem dX11_best_16 : decode cX11_best 16 = .ok (.ifCond .ne 7, 3) := by decide +kernel
theorem dX11_best_19 : decode cX11_best 19 = .ok (.sipush (-1002), 3) := by decide +kernel
theorem dX11_best_22 : decode cX11_best 22 = .ok (.ireturn, 1) := by decide +kernel
theorem dX11_best_23 : decode cX11_best 23 = .ok (.aload_n 0, 1) := by decide +kernel
theorem dX11_best_24 : decode cX11_best 24 = .ok (.aload_n 0, 1) := by decide +kernel
theorem dX11_best_25 : decode cX11_best 25 = .ok (.getfield 31, 3) := by decide +kernel
theorem dX11_best_28 : decode cX11_best 28 = .ok (.iload_n 1, 1) := by decide +kernel
theorem dX11_best_29 : decode cX11_best 29 = .ok (.iaload, 1) := by decide +kernel
theorem dX11_best_30 : decode cX11_best 30 = .ok (.invokevirtual 315, 3) := by decide +kernel
theorem dX11_best_33 : decode cX11_best 33 = .ok (.istore_n 3, 1) := by decide +kernel
theorem dX11_best_34 : decode cX11_best 34 = .ok (.aload_n 0, 1) := by decide +kernel
theorem dX11_best_35 : decode cX11_best 35 = .ok (.iload_n 1, 1) := by decide +kernel
theorem dX11_best_36 : decode cX11_best 36 = .ok (.iload_n 2, 1) := by decide +kernel
theorem dX11_best_37 : decode cX11_best 37 = .ok (.invokevirtual 378, 3) := by decide +kernel
theorem dX11_best_40 : decode cX11_best 40 = .ok (.istore 4, 2) := by decide +kernel
theorem dX11_best_42 : decode cX11_best 42 = .ok (.aload_n 0, 1) := by decide +kernel
theorem dX11_best_43 : decode cX11_best 43 = .ok (.getfield 31, 3) := by decide +kernel
theorem dX11_best_46 : decode cX11_best 46 = .ok (.iload_n 1, 1) := by decide +kernel
theorem dX11_best_47 : decode cX11_best 47 = .ok (.iaload, 1) := by decide +kernel
theorem dX11_best_48 : decode cX11_best 48 = .ok (.invokestatic 277, 3) := by decide +kernel
theorem dX11_best_51 : decode cX11_best 51 = .ok (.iload_n 2, 1) := by decide +kernel
theorem dX11_best_52 : decode cX11_best 52 = .ok (.if_icmp .ne 7, 3) := by decide +kernel
theorem dX11_best_55 : decode cX11_best 55 = .ok (.iconst 1, 1) := by decide +kernel
theorem dX11_best_56 : decode cX11_best 56 = .ok (.goto 4, 3) := by decide +kernel
theorem dX11_best_59 : decode cX11_best 59 = .ok (.iconst 0, 1) := by decide +kernel
theorem dX11_best_60 : decode cX11_best 60 = .ok (.istore 5, 2) := by decide +kernel
theorem dX11_best_62 : decode cX11_best 62 = .ok (.iconst (-1), 1) := by decide +kernel
theorem dX11_best_63 : decode cX11_best 63 = .ok (.istore 6, 2) := by decide +kernel
theorem dX11_best_65 : decode cX11_best 65 = .ok (.iconst 0, 1) := by decide +kernel
theorem dX11_best_66 : decode cX11_best 66 = .ok (.istore 7, 2) := by decide +kernel
theorem dX11_best_68 : decode cX11_best 68 = .ok (.iconst 0, 1) := by decide +kernel
theorem dX11_best_69 : decode cX11_best 69 = .ok (.istore 8, 2) := by decide +kernel
theorem dX11_best_71 : decode cX11_best 71 = .ok (.iload 8, 2) := by decide +kernel
theorem dX11_best_73 : decode cX11_best 73 = .ok (.aload_n 0, 1) := by decide +kernel
theorem dX11_best_74 : decode cX11_best 74 = .ok (.getfield 141, 3) := by decide +kernel
theorem dX11_best_77 : decode cX11_best 77 = .ok (.if_icmp .ge 121, 3) := by decide +kernel
theorem dX11_best_80 : decode cX11_best 80 = .ok (.iload_n 3, 1) := by decide +kernel
theorem dX11_best_81 : decode cX11_best 81 = .ok (.iload 8, 2) := by decide +kernel
theorem dX11_best_83 : decode cX11_best 83 = .ok (.invokestatic 287, 3) := by decide +kernel
theorem dX11_best_86 : decode cX11_best 86 = .ok (.ifCond .eq 106, 3) := by decide +kernel
theorem dX11_best_89 : decode cX11_best 89 = .ok (.aload_n 0, 1) := by decide +kernel
theorem dX11_best_90 : decode cX11_best 90 = .ok (.getfield 95, 3) := by decide +kernel
theorem dX11_best_93 : decode cX11_best 93 = .ok (.aload_n 0, 1) := by decide +kernel
theorem dX11_best_94 : decode cX11_best 94 = .ok (.getfield 66, 3) := by decide +kernel
theorem dX11_best_97 : decode cX11_best 97 = .ok (.aload_n 0, 1) := by decide +kernel
theorem dX11_best_98 : decode cX11_best 98 = .ok (.aload_n 0, 1) := by decide +kernel
theorem dX11_best_99 : decode cX11_best 99 = .ok (.getfield 31, 3) := by decide +kernel
theorem dX11_best_102 : decode cX11_best 102 = .ok (.iload_n 1, 1) := by decide +kernel
theorem dX11_best_103 : decode cX11_best 103 = .ok (.iaload, 1) := by decide +kernel
theorem dX11_best_104 : decode cX11_best 104 = .ok (.iload 8, 2) := by decide +kernel
theorem dX11_best_106 : decode cX11_best 106 = .ok (.invokevirtual 337, 3) := by decide +kernel
theorem dX11_best_109 : decode cX11_best 109 = .ok (.iaload, 1) := by decide +kernel
theorem dX11_best_110 : decode cX11_best 110 = .ok (.iconst 1, 1) := by decide +kernel
theorem dX11_best_111 : decode cX11_best 111 = .ok (.isub, 1) := by decide +kernel
theorem dX11_best_112 : decode cX11_best 112 = .ok (.iaload, 1) := by decide +kernel
theorem dX11_best_113 : decode cX11_best 113 = .ok (.istore 9, 2) := by decide +kernel
theorem dX11_best_115 : decode cX11_best 115 = .ok (.iload 9, 2) := by decide +kernel
theorem dX11_best_117 : decode cX11_best 117 = .ok (.ifCond .ge 9, 3) := by decide +kernel
theorem dX11_best_120 : decode cX11_best 120 = .ok (.ldc_w 381, 3) := by decide +kernel
theorem dX11_best_123 : decode cX11_best 123 = .ok (.goto 5, 3) := by decide +kernel
theorem dX11_best_126 : decode cX11_best 126 = .ok (.iload 9, 2) := by decide +kernel
theorem dX11_best_128 : decode cX11_best 128 = .ok (.istore 10, 2) := by decide +kernel
theorem dX11_best_130 : decode cX11_best 130 = .ok (.iload 6, 2) := by decide +kernel
theorem dX11_best_132 : decode cX11_best 132 = .ok (.ifCond .lt 25, 3) := by decide +kernel
theorem dX11_best_135 : decode cX11_best 135 = .ok (.iload 5, 2) := by decide +kernel
theorem dX11_best_137 : decode cX11_best 137 = .ok (.ifCond .eq 13, 3) := by decide +kernel
theorem dX11_best_140 : decode cX11_best 140 = .ok (.iload 10, 2) := by decide +kernel
theorem dX11_best_142 : decode cX11_best 142 = .ok (.iload 7, 2) := by decide +kernel
theorem dX11_best_144 : decode cX11_best 144 = .ok (.if_icmp .ge 17, 3) := by decide +kernel
theorem dX11_best_147 : decode cX11_best 147 = .ok (.goto 10, 3) := by decide +kernel
theorem dX11_best_150 : decode cX11_best 150 = .ok (.iload 10, 2) := by decide +kernel
theorem dX11_best_152 : decode cX11_best 152 = .ok (.iload 7, 2) := by decide +kernel
theorem dX11_best_154 : decode cX11_best 154 = .ok (.if_icmp .le 7, 3) := by decide +kernel
theorem dX11_best_157 : decode cX11_best 157 = .ok (.iconst 1, 1) := by decide +kernel
theorem dX11_best_158 : decode cX11_best 158 = .ok (.goto 4, 3) := by decide +kernel
theorem dX11_best_161 : decode cX11_best 161 = .ok (.iconst 0, 1) := by decide +kernel
theorem dX11_best_162 : decode cX11_best 162 = .ok (.istore 11, 2) := by decide +kernel
theorem dX11_best_164 : decode cX11_best 164 = .ok (.iload 11, 2) := by decide +kernel
theorem dX11_best_166 : decode cX11_best 166 = .ok (.ifCond .eq 8, 3) := by decide +kernel
theorem dX11_best_169 : decode cX11_best 169 = .ok (.iload 8, 2) := by decide +kernel
theorem dX11_best_171 : decode cX11_best 171 = .ok (.goto 5, 3) := by decide +kernel
theorem dX11_best_174 : decode cX11_best 174 = .ok (.iload 6, 2) := by decide +kernel
theorem dX11_best_176 : decode cX11_best 176 = .ok (.istore 6, 2) := by decide +kernel
theorem dX11_best_178 : decode cX11_best 178 = .ok (.iload 11, 2) := by decide +kernel
theorem dX11_best_180 : decode cX11_best 180 = .ok (.ifCond .eq 8, 3) := by decide +kernel
theorem dX11_best_183 : decode cX11_best 183 = .ok (.iload 10, 2) := by decide +kernel
theorem dX11_best_185 : decode cX11_best 185 = .ok (.goto 5, 3) := by decide +kernel
theorem dX11_best_188 : decode cX11_best 188 = .ok (.iload 7, 2) := by decide +kernel
theorem dX11_best_190 : decode cX11_best 190 = .ok (.istore 7, 2) := by decide +kernel
theorem dX11_best_192 : decode cX11_best 192 = .ok (.iinc 8 1, 3) := by decide +kernel
theorem dX11_best_195 : decode cX11_best 195 = .ok (.goto (-124), 3) := by decide +kernel
theorem dX11_best_198 : decode cX11_best 198 = .ok (.iload 6, 2) := by decide +kernel
theorem dX11_best_200 : decode cX11_best 200 = .ok (.ireturn, 1) := by decide +kernel
theorem dX11_sure_0 : decode cX11_sure 0 = .ok (.aload_n 0, 1) := by decide +kernel
theorem dX11_sure_1 : decode cX11_sure 1 = .ok (.iload_n 1, 1) := by decide +kernel
theorem dX11_sure_2 : decode cX11_sure 2 = .ok (.invokevirtual 309, 3) := by decide +kernel
theorem dX11_sure_5 : decode cX11_sure 5 = .ok (.ifCond .eq 12, 3) := by decide +kernel
theorem dX11_sure_8 : decode cX11_sure 8 = .ok (.aload_n 0, 1) := by decide +kernel
theorem dX11_sure_9 : decode cX11_sure 9 = .ok (.iload_n 1, 1) := by decide +kernel
theorem dX11_sure_10 : decode cX11_sure 10 = .ok (.iconst 2, 1) := by decide +kernel
theorem dX11_sure_11 : decode cX11_sure 11 = .ok (.invokevirtual 378, 3) := by decide +kernel
theorem dX11_sure_14 : decode cX11_sure 14 = .ok (.goto 6, 3) := by decide +kernel
theorem dX11_sure_17 : decode cX11_sure 17 = .ok (.sipush (-1001), 3) := by decide +kernel
theorem dX11_sure_20 : decode cX11_sure 20 = .ok (.ireturn, 1) := by decide +kernel
theorem dX11_aside_0 : decode cX11_aside 0 = .ok (.aload_n 0, 1) := by decide +kernel
theorem dX11_aside_1 : decode cX11_aside 1 = .ok (.iload_n 1, 1) := by decide +kernel
theorem dX11_aside_2 : decode cX11_aside 2 = .ok (.invokevirtual 309, 3) := by decide +kernel
theorem dX11_aside_5 : decode cX11_aside 5 = .ok (.ifCond .ne 7, 3) := by decide +kernel
theorem dX11_aside_8 : decode cX11_aside 8 = .ok (.sipush (-1001), 3) := by decide +kernel
theorem dX11_aside_11 : decode cX11_aside 11 = .ok (.ireturn, 1) := by decide +kernel
theorem dX11_aside_12 : decode cX11_aside 12 = .ok (.iload_n 2, 1) := by decide +kernel
theorem dX11_aside_13 : decode cX11_aside 13 = .ok (.invokestatic 375, 3) := by decide +kernel
theorem dX11_aside_16 : decode cX11_aside 16 = .ok (.ifCond .ne 7, 3) := by decide +kernel
theorem dX11_aside_19 : decode cX11_aside 19 = .ok (.sipush (-1002), 3) := by decide +kernel
theorem dX11_aside_22 : decode cX11_aside 22 = .ok (.ireturn, 1) := by decide +kernel
theorem dX11_aside_23 : decode cX11_aside 23 = .ok (.aload_n 0, 1) := by decide +kernel
theorem dX11_aside_24 : decode cX11_aside 24 = .ok (.getfield 243, 3) := by decide +kernel
theorem dX11_aside_27 : decode cX11_aside 27 = .ok (.bipush 12, 2) := by decide +kernel
theorem dX11_aside_29 : decode cX11_aside 29 = .ok (.if_icmp .le 7, 3) := by decide +kernel
theorem dX11_aside_32 : decode cX11_aside 32 = .ok (.sipush (-1003), 3) := by decide +kernel
theorem dX11_aside_35 : decode cX11_aside 35 = .ok (.ireturn, 1) := by decide +kernel
theorem dX11_aside_36 : decode cX11_aside 36 = .ok (.aload_n 0, 1) := by decide +kernel
theorem dX11_aside_37 : decode cX11_aside 37 = .ok (.aload_n 0, 1) := by decide +kernel
theorem dX11_aside_38 : decode cX11_aside 38 = .ok (.getfield 31, 3) := by decide +kernel
theorem dX11_aside_41 : decode cX11_aside 41 = .ok (.iload_n 1, 1) := by decide +kernel
theorem dX11_aside_42 : decode cX11_aside 42 = .ok (.iaload, 1) := by decide +kernel
theorem dX11_aside_43 : decode cX11_aside 43 = .ok (.iconst 1, 1) := by decide +kernel
theorem dX11_aside_44 : decode cX11_aside 44 = .ok (.invokevirtual 357, 3) := by decide +kernel
theorem dX11_aside_47 : decode cX11_aside 47 = .ok (.iconst 0, 1) := by decide +kernel
theorem dX11_aside_48 : decode cX11_aside 48 = .ok (.istore_n 3, 1) := by decide +kernel
theorem dX11_aside_49 : decode cX11_aside 49 = .ok (.iload_n 3, 1) := by decide +kernel
theorem dX11_aside_50 : decode cX11_aside 50 = .ok (.aload_n 0, 1) := by decide +kernel
theorem dX11_aside_51 : decode cX11_aside 51 = .ok (.getfield 243, 3) := by decide +kernel
theorem dX11_aside_54 : decode cX11_aside 54 = .ok (.if_icmp .gt 61, 3) := by decide +kernel
theorem dX11_aside_57 : decode cX11_aside 57 = .ok (.iconst 0, 1) := by decide +kernel
theorem dX11_aside_58 : decode cX11_aside 58 = .ok (.istore 4, 2) := by decide +kernel
theorem dX11_aside_60 : decode cX11_aside 60 = .ok (.iload 4, 2) := by decide +kernel
theorem dX11_aside_62 : decode cX11_aside 62 = .ok (.iconst 1, 1) := by decide +kernel
theorem dX11_aside_63 : decode cX11_aside 63 = .ok (.aload_n 0, 1) := by decide +kernel
theorem dX11_aside_64 : decode cX11_aside 64 = .ok (.getfield 243, 3) := by decide +kernel
theorem dX11_aside_67 : decode cX11_aside 67 = .ok (.ishl, 1) := by decide +kernel
theorem dX11_aside_68 : decode cX11_aside 68 = .ok (.if_icmp .ge 41, 3) := by decide +kernel
theorem dX11_aside_71 : decode cX11_aside 71 = .ok (.iload 4, 2) := by decide +kernel
theorem dX11_aside_73 : decode cX11_aside 73 = .ok (.invokestatic 328, 3) := by decide +kernel
theorem dX11_aside_76 : decode cX11_aside 76 = .ok (.iload_n 3, 1) := by decide +kernel
theorem dX11_aside_77 : decode cX11_aside 77 = .ok (.if_icmp .ne 26, 3) := by decide +kernel
theorem dX11_aside_80 : decode cX11_aside 80 = .ok (.aload_n 0, 1) := by decide +kernel
theorem dX11_aside_81 : decode cX11_aside 81 = .ok (.iload 4, 2) := by decide +kernel
theorem dX11_aside_83 : decode cX11_aside 83 = .ok (.invokevirtual 368, 3) := by decide +kernel
theorem dX11_aside_86 : decode cX11_aside 86 = .ok (.aload_n 0, 1) := by decide +kernel
theorem dX11_aside_87 : decode cX11_aside 87 = .ok (.iload_n 2, 1) := by decide +kernel
theorem dX11_aside_88 : decode cX11_aside 88 = .ok (.invokevirtual 372, 3) := by decide +kernel
theorem dX11_aside_91 : decode cX11_aside 91 = .ok (.aload_n 0, 1) := by decide +kernel
theorem dX11_aside_92 : decode cX11_aside 92 = .ok (.getfield 95, 3) := by decide +kernel
theorem dX11_aside_95 : decode cX11_aside 95 = .ok (.iconst 0, 1) := by decide +kernel
theorem dX11_aside_96 : decode cX11_aside 96 = .ok (.iaload, 1) := by decide +kernel
theorem dX11_aside_97 : decode cX11_aside 97 = .ok (.ifCond .lt 6, 3) := by decide +kernel
theorem dX11_aside_100 : decode cX11_aside 100 = .ok (.iload 4, 2) := by decide +kernel
theorem dX11_aside_102 : decode cX11_aside 102 = .ok (.ireturn, 1) := by decide +kernel
theorem dX11_aside_103 : decode cX11_aside 103 = .ok (.iinc 4 1, 3) := by decide +kernel
theorem dX11_aside_106 : decode cX11_aside 106 = .ok (.goto (-46), 3) := by decide +kernel
theorem dX11_aside_109 : decode cX11_aside 109 = .ok (.iinc 3 1, 3) := by decide +kernel
theorem dX11_aside_112 : decode cX11_aside 112 = .ok (.goto (-63), 3) := by decide +kernel
theorem dX11_aside_115 : decode cX11_aside 115 = .ok (.iconst (-1), 1) := by decide +kernel
theorem dX11_aside_116 : decode cX11_aside 116 = .ok (.ireturn, 1) := by decide +kernel
theorem dX11_setBearing_0 : decode cX11_setBearing 0 = .ok (.aload_n 0, 1) := by decide +kernel
theorem dX11_setBearing_1 : decode cX11_setBearing 1 = .ok (.getfield 98, 3) := by decide +kernel
theorem dX11_setBearing_4 : decode cX11_setBearing 4 = .ok (.bipush 16, 2) := by decide +kernel
theorem dX11_setBearing_6 : decode cX11_setBearing 6 = .ok (.iload_n 1, 1) := by decide +kernel
theorem dX11_setBearing_7 : decode cX11_setBearing 7 = .ok (.bipush 100, 2) := by decide +kernel
theorem dX11_setBearing_9 : decode cX11_setBearing 9 = .ok (.idiv, 1) := by decide +kernel
theorem dX11_setBearing_10 : decode cX11_setBearing 10 = .ok (.imul, 1) := by decide +kernel
theorem dX11_setBearing_11 : decode cX11_setBearing 11 = .ok (.iload_n 1, 1) := by decide +kernel
theorem dX11_setBearing_12 : decode cX11_setBearing 12 = .ok (.bipush 100, 2) := by decide +kernel
theorem dX11_setBearing_14 : decode cX11_setBearing 14 = .ok (.irem, 1) := by decide +kernel
theorem dX11_setBearing_15 : decode cX11_setBearing 15 = .ok (.iadd, 1) := by decide +kernel
theorem dX11_setBearing_16 : decode cX11_setBearing 16 = .ok (.iload_n 2, 1) := by decide +kernel
theorem dX11_setBearing_17 : decode cX11_setBearing 17 = .ok (.bastore, 1) := by decide +kernel
theorem dX11_setBearing_18 : decode cX11_setBearing 18 = .ok (.aload_n 0, 1) := by decide +kernel
theorem dX11_setBearing_19 : decode cX11_setBearing 19 = .ok (.getfield 98, 3) := by decide +kernel
theorem dX11_setBearing_22 : decode cX11_setBearing 22 = .ok (.bipush 16, 2) := by decide +kernel
theorem dX11_setBearing_24 : decode cX11_setBearing 24 = .ok (.iload_n 1, 1) := by decide +kernel
theorem dX11_setBearing_25 : decode cX11_setBearing 25 = .ok (.bipush 100, 2) := by decide +kernel
theorem dX11_setBearing_27 : decode cX11_setBearing 27 = .ok (.irem, 1) := by decide +kernel
theorem dX11_setBearing_28 : decode cX11_setBearing 28 = .ok (.imul, 1) := by decide +kernel
theorem dX11_setBearing_29 : decode cX11_setBearing 29 = .ok (.iload_n 1, 1) := by decide +kernel
theorem dX11_setBearing_30 : decode cX11_setBearing 30 = .ok (.bipush 100, 2) := by decide +kernel
theorem dX11_setBearing_32 : decode cX11_setBearing 32 = .ok (.idiv, 1) := by decide +kernel
theorem dX11_setBearing_33 : decode cX11_setBearing 33 = .ok (.iadd, 1) := by decide +kernel
theorem dX11_setBearing_34 : decode cX11_setBearing 34 = .ok (.iload_n 2, 1) := by decide +kernel
theorem dX11_setBearing_35 : decode cX11_setBearing 35 = .ok (.bastore, 1) := by decide +kernel
theorem dX11_setBearing_36 : decode cX11_setBearing 36 = .ok (.return_, 1) := by decide +kernel
theorem dX11_isForced_0 : decode cX11_isForced 0 = .ok (.aload_n 0, 1) := by decide +kernel
theorem dX11_isForced_1 : decode cX11_isForced 1 = .ok (.iload_n 1, 1) := by decide +kernel
theorem dX11_isForced_2 : decode cX11_isForced 2 = .ok (.invokevirtual 372, 3) := by decide +kernel
theorem dX11_isForced_5 : decode cX11_isForced 5 = .ok (.aload_n 0, 1) := by decide +kernel
theorem dX11_isForced_6 : decode cX11_isForced 6 = .ok (.getfield 95, 3) := by decide +kernel
theorem dX11_isForced_9 : decode cX11_isForced 9 = .ok (.iconst 0, 1) := by decide +kernel
theorem dX11_isForced_10 : decode cX11_isForced 10 = .ok (.iaload, 1) := by decide +kernel
theorem dX11_isForced_11 : decode cX11_isForced 11 = .ok (.ifCond .lt 7, 3) := by decide +kernel
theorem dX11_isForced_14 : decode cX11_isForced 14 = .ok (.iconst 1, 1) := by decide +kernel
theorem dX11_isForced_15 : decode cX11_isForced 15 = .ok (.goto 4, 3) := by decide +kernel
theorem dX11_isForced_18 : decode cX11_isForced 18 = .ok (.iconst 0, 1) := by decide +kernel
theorem dX11_isForced_19 : decode cX11_isForced 19 = .ok (.ireturn, 1) := by decide +kernel
theorem dX11_isFree_0 : decode cX11_isFree 0 = .ok (.iload_n 1, 1) := by decide +kernel
theorem dX11_isFree_1 : decode cX11_isFree 1 = .ok (.iload_n 2, 1) := by decide +kernel
theorem dX11_isFree_2 : decode cX11_isFree 2 = .ok (.if_icmp .ge 21, 3) := by decide +kernel
theorem dX11_isFree_5 : decode cX11_isFree 5 = .ok (.aload_n 0, 1) := by decide +kernel
theorem dX11_isFree_6 : decode cX11_isFree 6 = .ok (.getfield 98, 3) := by decide +kernel
theorem dX11_isFree_9 : decode cX11_isFree 9 = .ok (.bipush 16, 2) := by decide +kernel
theorem dX11_isFree_11 : decode cX11_isFree 11 = .ok (.iload_n 1, 1) := by decide +kernel
theorem dX11_isFree_12 : decode cX11_isFree 12 = .ok (.imul, 1) := by decide +kernel
theorem dX11_isFree_13 : decode cX11_isFree 13 = .ok (.iload_n 2, 1) := by decide +kernel
theorem dX11_isFree_14 : decode cX11_isFree 14 = .ok (.iadd, 1) := by decide +kernel
theorem dX11_isFree_15 : decode cX11_isFree 15 = .ok (.baload, 1) := by decide +kernel
theorem dX11_isFree_16 : decode cX11_isFree 16 = .ok (.ifCond .ne 7, 3) := by decide +kernel
theorem dX11_isFree_19 : decode cX11_isFree 19 = .ok (.iconst 1, 1) := by decide +kernel
theorem dX11_isFree_20 : decode cX11_isFree 20 = .ok (.goto 4, 3) := by decide +kernel
theorem dX11_isFree_23 : decode cX11_isFree 23 = .ok (.iconst 0, 1) := by decide +kernel
theorem dX11_isFree_24 : decode cX11_isFree 24 = .ok (.ireturn, 1) := by decide +kernel
theorem dX11_findFresh_0 : decode cX11_findFresh 0 = .ok (.aload_n 0, 1) := by decide +kernel
theorem dX11_findFresh_1 : decode cX11_findFresh 1 = .ok (.iconst (-1), 1) := by decide +kernel
theorem dX11_findFresh_2 : decode cX11_findFresh 2 = .ok (.putfield 382, 3) := by decide +kernel
theorem dX11_findFresh_5 : decode cX11_findFresh 5 = .ok (.aload_n 0, 1) := by decide +kernel
theorem dX11_findFresh_6 : decode cX11_findFresh 6 = .ok (.iconst (-1), 1) := by decide +kernel
theorem dX11_findFresh_7 : decode cX11_findFresh 7 = .ok (.putfield 385, 3) := by decide +kernel
theorem dX11_findFresh_10 : decode cX11_findFresh 10 = .ok (.aload_n 0, 1) := by decide +kernel
theorem dX11_findFresh_11 : decode cX11_findFresh 11 = .ok (.iload_n 1, 1) := by decide +kernel
theorem dX11_findFresh_12 : decode cX11_findFresh 12 = .ok (.invokevirtual 388, 3) := by decide +kernel
theorem dX11_findFresh_15 : decode cX11_findFresh 15 = .ok (.ifCond .ne 5, 3) := by decide +kernel
theorem dX11_findFresh_18 : decode cX11_findFresh 18 = .ok (.iconst 0, 1) := by decide +kernel
theorem dX11_findFresh_19 : decode cX11_findFresh 19 = .ok (.ireturn, 1) := by decide +kernel
theorem dX11_findFresh_20 : decode cX11_findFresh 20 = .ok (.iconst 0, 1) := by decide +kernel
theorem dX11_findFresh_21 : decode cX11_findFresh 21 = .ok (.istore_n 2, 1) := by decide +kernel
theorem dX11_findFresh_22 : decode cX11_findFresh 22 = .ok (.iload_n 2, 1) := by decide +kernel
theorem dX11_findFresh_23 : decode cX11_findFresh 23 = .ok (.aload_n 0, 1) := by decide +kernel
theorem dX11_findFresh_24 : decode cX11_findFresh 24 = .ok (.getfield 141, 3) := by decide +kernel
theorem dX11_findFresh_27 : decode cX11_findFresh 27 = .ok (.aload_n 0, 1) := by decide +kernel
theorem dX11_findFresh_28 : decode cX11_findFresh 28 = .ok (.getfield 141, 3) := by decide +kernel
theorem dX11_findFresh_31 : decode cX11_findFresh 31 = .ok (.imul, 1) := by decide +kernel
theorem dX11_findFresh_32 : decode cX11_findFresh 32 = .ok (.if_icmp .ge 91, 3) := by decide +kernel
theorem dX11_findFresh_35 : decode cX11_findFresh 35 = .ok (.iload_n 2, 1) := by decide +kernel
theorem dX11_findFresh_36 : decode cX11_findFresh 36 = .ok (.aload_n 0, 1) := by decide +kernel
theorem dX11_findFresh_37 : decode cX11_findFresh 37 = .ok (.getfield 141, 3) := by decide +kernel
theorem dX11_findFresh_40 : decode cX11_findFresh 40 = .ok (.idiv, 1) := by decide +kernel
theorem dX11_findFresh_41 : decode cX11_findFresh 41 = .ok (.istore_n 3, 1) := by decide +kernel
theorem dX11_findFresh_42 : decode cX11_findFresh 42 = .ok (.iload_n 2, 1) := by decide +kernel
theorem dX11_findFresh_43 : decode cX11_findFresh 43 = .ok (.aload_n 0, 1) := by decide +kernel
theorem dX11_findFresh_44 : decode cX11_findFresh 44 = .ok (.getfield 141, 3) := by decide +kernel
theorem dX11_findFresh_47 : decode cX11_findFresh 47 = .ok (.irem, 1) := by decide +kernel
theorem dX11_findFresh_48 : decode cX11_findFresh 48 = .ok (.istore 4, 2) := by decide +kernel
theorem dX11_findFresh_50 : decode cX11_findFresh 50 = .ok (.aload_n 0, 1) := by decide +kernel
theorem dX11_findFresh_51 : decode cX11_findFresh 51 = .ok (.iload_n 3, 1) := by decide +kernel
theorem dX11_findFresh_52 : decode cX11_findFresh 52 = .ok (.iload 4, 2) := by decide +kernel
theorem dX11_findFresh_54 : decode cX11_findFresh 54 = .ok (.invokevirtual 391, 3) := by decide +kernel
theorem dX11_findFresh_57 : decode cX11_findFresh 57 = .ok (.ifCond .eq 60, 3) := by decide +kernel
theorem dX11_findFresh_60 : decode cX11_findFresh 60 = .ok (.aload_n 0, 1) := by decide +kernel
theorem dX11_findFresh_61 : decode cX11_findFresh 61 = .ok (.bipush 100, 2) := by decide +kernel
theorem dX11_findFresh_63 : decode cX11_findFresh 63 = .ok (.iload_n 3, 1) := by decide +kernel
theorem dX11_findFresh_64 : decode cX11_findFresh 64 = .ok (.imul, 1) := by decide +kernel
theorem dX11_findFresh_65 : decode cX11_findFresh 65 = .ok (.iload 4, 2) := by decide +kernel
theorem dX11_findFresh_67 : decode cX11_findFresh 67 = .ok (.iadd, 1) := by decide +kernel
theorem dX11_findFresh_68 : decode cX11_findFresh 68 = .ok (.iconst 1, 1) := by decide +kernel
theorem dX11_findFresh_69 : decode cX11_findFresh 69 = .ok (.invokevirtual 394, 3) := by decide +kernel
theorem dX11_findFresh_72 : decode cX11_findFresh 72 = .ok (.aload_n 0, 1) := by decide +kernel
theorem dX11_findFresh_73 : decode cX11_findFresh 73 = .ok (.iload_n 1, 1) := by decide +kernel
theorem dX11_findFresh_74 : decode cX11_findFresh 74 = .ok (.invokevirtual 388, 3) := by decide +kernel
theorem dX11_findFresh_77 : decode cX11_findFresh 77 = .ok (.ifCond .ne 7, 3) := by decide +kernel
theorem dX11_findFresh_80 : decode cX11_findFresh 80 = .ok (.iconst 1, 1) := by decide +kernel
theorem dX11_findFresh_81 : decode cX11_findFresh 81 = .ok (.goto 4, 3) := by decide +kernel
theorem dX11_findFresh_84 : decode cX11_findFresh 84 = .ok (.iconst 0, 1) := by decide +kernel
theorem dX11_findFresh_85 : decode cX11_findFresh 85 = .ok (.istore 5, 2) := by decide +kernel
theorem dX11_findFresh_87 : decode cX11_findFresh 87 = .ok (.aload_n 0, 1) := by decide +kernel
theorem dX11_findFresh_88 : decode cX11_findFresh 88 = .ok (.bipush 100, 2) := by decide +kernel
theorem dX11_findFresh_90 : decode cX11_findFresh 90 = .ok (.iload_n 3, 1) := by decide +kernel
theorem dX11_findFresh_91 : decode cX11_findFresh 91 = .ok (.imul, 1) := by decide +kernel
theorem dX11_findFresh_92 : decode cX11_findFresh 92 = .ok (.iload 4, 2) := by decide +kernel
theorem dX11_findFresh_94 : decode cX11_findFresh 94 = .ok (.iadd, 1) := by decide +kernel
theorem dX11_findFresh_95 : decode cX11_findFresh 95 = .ok (.iconst 0, 1) := by decide +kernel
theorem dX11_findFresh_96 : decode cX11_findFresh 96 = .ok (.invokevirtual 394, 3) := by decide +kernel
theorem dX11_findFresh_99 : decode cX11_findFresh 99 = .ok (.iload 5, 2) := by decide +kernel
theorem dX11_findFresh_101 : decode cX11_findFresh 101 = .ok (.ifCond .eq 16, 3) := by decide +kernel
theorem dX11_findFresh_104 : decode cX11_findFresh 104 = .ok (.aload_n 0, 1) := by decide +kernel
theorem dX11_findFresh_105 : decode cX11_findFresh 105 = .ok (.bipush 100, 2) := by decide +kernel
theorem dX11_findFresh_107 : decode cX11_findFresh 107 = .ok (.iload_n 3, 1) := by decide +kernel
theorem dX11_findFresh_108 : decode cX11_findFresh 108 = .ok (.imul, 1) := by decide +kernel
theorem dX11_findFresh_109 : decode cX11_findFresh 109 = .ok (.iload 4, 2) := by decide +kernel
theorem dX11_findFresh_111 : decode cX11_findFresh 111 = .ok (.iadd, 1) := by decide +kernel
theorem dX11_findFresh_112 : decode cX11_findFresh 112 = .ok (.putfield 382, 3) := by decide +kernel
theorem dX11_findFresh_115 : decode cX11_findFresh 115 = .ok (.iconst 1, 1) := by decide +kernel
theorem dX11_findFresh_116 : decode cX11_findFresh 116 = .ok (.ireturn, 1) := by decide +kernel
theorem dX11_findFresh_117 : decode cX11_findFresh 117 = .ok (.iinc 2 1, 3) := by decide +kernel
theorem dX11_findFresh_120 : decode cX11_findFresh 120 = .ok (.goto (-98), 3) := by decide +kernel
theorem dX11_findFresh_123 : decode cX11_findFresh 123 = .ok (.iconst 0, 1) := by decide +kernel
theorem dX11_findFresh_124 : decode cX11_findFresh 124 = .ok (.istore_n 2, 1) := by decide +kernel
theorem dX11_findFresh_125 : decode cX11_findFresh 125 = .ok (.iload_n 2, 1) := by decide +kernel
theorem dX11_findFresh_126 : decode cX11_findFresh 126 = .ok (.aload_n 0, 1) := by decide +kernel
theorem dX11_findFresh_127 : decode cX11_findFresh 127 = .ok (.getfield 141, 3) := by decide +kernel
theorem dX11_findFresh_130 : decode cX11_findFresh 130 = .ok (.aload_n 0, 1) := by decide +kernel
theorem dX11_findFresh_131 : decode cX11_findFresh 131 = .ok (.getfield 141, 3) := by decide +kernel
theorem dX11_findFresh_134 : decode cX11_findFresh 134 = .ok (.imul, 1) := by decide +kernel
theorem dX11_findFresh_135 : decode cX11_findFresh 135 = .ok (.if_icmp .ge 170, 3) := by decide +kernel
theorem dX11_findFresh_138 : decode cX11_findFresh 138 = .ok (.bipush 100, 2) := by decide +kernel
theorem dX11_findFresh_140 : decode cX11_findFresh 140 = .ok (.iload_n 2, 1) := by decide +kernel
theorem dX11_findFresh_141 : decode cX11_findFresh 141 = .ok (.aload_n 0, 1) := by decide +kernel
theorem dX11_findFresh_142 : decode cX11_findFresh 142 = .ok (.getfield 141, 3) := by decide +kernel
theorem dX11_findFresh_145 : decode cX11_findFresh 145 = .ok (.idiv, 1) := by decide +kernel
theorem dX11_findFresh_146 : decode cX11_findFresh 146 = .ok (.imul, 1) := by decide +kernel
theorem dX11_findFresh_147 : decode cX11_findFresh 147 = .ok (.iload_n 2, 1) := by decide +kernel
theorem dX11_findFresh_148 : decode cX11_findFresh 148 = .ok (.aload_n 0, 1) := by decide +kernel
theorem dX11_findFresh_149 : decode cX11_findFresh 149 = .ok (.getfield 141, 3) := by decide +kernel
theorem dX11_findFresh_152 : decode cX11_findFresh 152 = .ok (.irem, 1) := by decide +kernel
theorem dX11_findFresh_153 : decode cX11_findFresh 153 = .ok (.iadd, 1) := by decide +kernel
theorem dX11_findFresh_154 : decode cX11_findFresh 154 = .ok (.istore_n 3, 1) := by decide +kernel
theorem dX11_findFresh_155 : decode cX11_findFresh 155 = .ok (.aload_n 0, 1) := by decide +kernel
theorem dX11_findFresh_156 : decode cX11_findFresh 156 = .ok (.iload_n 2, 1) := by decide +kernel
theorem dX11_findFresh_157 : decode cX11_findFresh 157 = .ok (.aload_n 0, 1) := by decide +kernel
theorem dX11_findFresh_158 : decode cX11_findFresh 158 = .ok (.getfield 141, 3) := by decide +kernel
theorem dX11_findFresh_161 : decode cX11_findFresh 161 = .ok (.idiv, 1) := by decide +kernel
theorem dX11_findFresh_162 : decode cX11_findFresh 162 = .ok (.iload_n 2, 1) := by decide +kernel
theorem dX11_findFresh_163 : decode cX11_findFresh 163 = .ok (.aload_n 0, 1) := by decide +kernel
theorem dX11_findFresh_164 : decode cX11_findFresh 164 = .ok (.getfield 141, 3) := by decide +kernel
theorem dX11_findFresh_167 : decode cX11_findFresh 167 = .ok (.irem, 1) := by decide +kernel
theorem dX11_findFresh_168 : decode cX11_findFresh 168 = .ok (.invokevirtual 391, 3) := by decide +kernel
theorem dX11_findFresh_171 : decode cX11_findFresh 171 = .ok (.ifCond .eq 128, 3) := by decide +kernel
theorem dX11_findFresh_174 : decode cX11_findFresh 174 = .ok (.aload_n 0, 1) := by decide +kernel
theorem dX11_findFresh_175 : decode cX11_findFresh 175 = .ok (.iload_n 3, 1) := by decide +kernel
theorem dX11_findFresh_176 : decode cX11_findFresh 176 = .ok (.iconst 1, 1) := by decide +kernel
theorem dX11_findFresh_177 : decode cX11_findFresh 177 = .ok (.invokevirtual 394, 3) := by decide +kernel
theorem dX11_findFresh_180 : decode cX11_findFresh 180 = .ok (.iload_n 2, 1) := by decide +kernel
theorem dX11_findFresh_181 : decode cX11_findFresh 181 = .ok (.iconst 1, 1) := by decide +kernel
theorem dX11_findFresh_182 : decode cX11_findFresh 182 = .ok (.iadd, 1) := by decide +kernel
theorem dX11_findFresh_183 : decode cX11_findFresh 183 = .ok (.istore 4, 2) := by decide +kernel
theorem dX11_findFresh_185 : decode cX11_findFresh 185 = .ok (.iload 4, 2) := by decide +kernel
theorem dX11_findFresh_187 : decode cX11_findFresh 187 = .ok (.aload_n 0, 1) := by decide +kernel
theorem dX11_findFresh_188 : decode cX11_findFresh 188 = .ok (.getfield 141, 3) := by decide +kernel
theorem dX11_findFresh_191 : decode cX11_findFresh 191 = .ok (.aload_n 0, 1) := by decide +kernel
theorem dX11_findFresh_192 : decode cX11_findFresh 192 = .ok (.getfield 141, 3) := by decide +kernel
theorem dX11_findFresh_195 : decode cX11_findFresh 195 = .ok (.imul, 1) := by decide +kernel
theorem dX11_findFresh_196 : decode cX11_findFresh 196 = .ok (.if_icmp .ge 97, 3) := by decide +kernel
theorem dX11_findFresh_199 : decode cX11_findFresh 199 = .ok (.bipush 100, 2) := by decide +kernel
theorem dX11_findFresh_201 : decode cX11_findFresh 201 = .ok (.iload 4, 2) := by decide +kernel
theorem dX11_findFresh_203 : decode cX11_findFresh 203 = .ok (.aload_n 0, 1) := by decide +kernel
theorem dX11_findFresh_204 : decode cX11_findFresh 204 = .ok (.getfield 141, 3) := by decide +kernel
theorem dX11_findFresh_207 : decode cX11_findFresh 207 = .ok (.idiv, 1) := by decide +kernel
theorem dX11_findFresh_208 : decode cX11_findFresh 208 = .ok (.imul, 1) := by decide +kernel
theorem dX11_findFresh_209 : decode cX11_findFresh 209 = .ok (.iload 4, 2) := by decide +kernel
theorem dX11_findFresh_211 : decode cX11_findFresh 211 = .ok (.aload_n 0, 1) := by decide +kernel
theorem dX11_findFresh_212 : decode cX11_findFresh 212 = .ok (.getfield 141, 3) := by decide +kernel
theorem dX11_findFresh_215 : decode cX11_findFresh 215 = .ok (.irem, 1) := by decide +kernel
theorem dX11_findFresh_216 : decode cX11_findFresh 216 = .ok (.iadd, 1) := by decide +kernel
theorem dX11_findFresh_217 : decode cX11_findFresh 217 = .ok (.istore 5, 2) := by decide +kernel
theorem dX11_findFresh_219 : decode cX11_findFresh 219 = .ok (.aload_n 0, 1) := by decide +kernel
theorem dX11_findFresh_220 : decode cX11_findFresh 220 = .ok (.iload 4, 2) := by decide +kernel
theorem dX11_findFresh_222 : decode cX11_findFresh 222 = .ok (.aload_n 0, 1) := by decide +kernel
theorem dX11_findFresh_223 : decode cX11_findFresh 223 = .ok (.getfield 141, 3) := by decide +kernel
theorem dX11_findFresh_226 : decode cX11_findFresh 226 = .ok (.idiv, 1) := by decide +kernel
theorem dX11_findFresh_227 : decode cX11_findFresh 227 = .ok (.iload 4, 2) := by decide +kernel
theorem dX11_findFresh_229 : decode cX11_findFresh 229 = .ok (.aload_n 0, 1) := by decide +kernel
theorem dX11_findFresh_230 : decode cX11_findFresh 230 = .ok (.getfield 141, 3) := by decide +kernel
theorem dX11_findFresh_233 : decode cX11_findFresh 233 = .ok (.irem, 1) := by decide +kernel
theorem dX11_findFresh_234 : decode cX11_findFresh 234 = .ok (.invokevirtual 391, 3) := by decide +kernel
theorem dX11_findFresh_237 : decode cX11_findFresh 237 = .ok (.ifCond .eq 50, 3) := by decide +kernel
theorem dX11_findFresh_240 : decode cX11_findFresh 240 = .ok (.aload_n 0, 1) := by decide +kernel
theorem dX11_findFresh_241 : decode cX11_findFresh 241 = .ok (.iload 5, 2) := by decide +kernel
theorem dX11_findFresh_243 : decode cX11_findFresh 243 = .ok (.iconst 1, 1) := by decide +kernel
theorem dX11_findFresh_244 : decode cX11_findFresh 244 = .ok (.invokevirtual 394, 3) := by decide +kernel
theorem dX11_findFresh_247 : decode cX11_findFresh 247 = .ok (.aload_n 0, 1) := by decide +kernel
theorem dX11_findFresh_248 : decode cX11_findFresh 248 = .ok (.iload_n 1, 1) := by decide +kernel
theorem dX11_findFresh_249 : decode cX11_findFresh 249 = .ok (.invokevirtual 388, 3) := by decide +kernel
theorem dX11_findFresh_252 : decode cX11_findFresh 252 = .ok (.ifCond .ne 7, 3) := by decide +kernel
theorem dX11_findFresh_255 : decode cX11_findFresh 255 = .ok (.iconst 1, 1) := by decide +kernel
theorem dX11_findFresh_256 : decode cX11_findFresh 256 = .ok (.goto 4, 3) := by decide +kernel
theorem dX11_findFresh_259 : decode cX11_findFresh 259 = .ok (.iconst 0, 1) := by decide +kernel
theorem dX11_findFresh_260 : decode cX11_findFresh 260 = .ok (.istore 6, 2) := by decide +kernel
theorem dX11_findFresh_262 : decode cX11_findFresh 262 = .ok (.aload_n 0, 1) := by decide +kernel
theorem dX11_findFresh_263 : decode cX11_findFresh 263 = .ok (.iload 5, 2) := by decide +kernel
theorem dX11_findFresh_265 : decode cX11_findFresh 265 = .ok (.iconst 0, 1) := by decide +kernel
theorem dX11_findFresh_266 : decode cX11_findFresh 266 = .ok (.invokevirtual 394, 3) := by decide +kernel
theorem dX11_findFresh_269 : decode cX11_findFresh 269 = .ok (.iload 6, 2) := by decide +kernel
theorem dX11_findFresh_271 : decode cX11_findFresh 271 = .ok (.ifCond .eq 16, 3) := by decide +kernel
theorem dX11_findFresh_274 : decode cX11_findFresh 274 = .ok (.aload_n 0, 1) := by decide +kernel
theorem dX11_findFresh_275 : decode cX11_findFresh 275 = .ok (.iload_n 3, 1) := by decide +kernel
theorem dX11_findFresh_276 : decode cX11_findFresh 276 = .ok (.putfield 382, 3) := by decide +kernel
theorem dX11_findFresh_279 : decode cX11_findFresh 279 = .ok (.aload_n 0, 1) := by decide +kernel
theorem dX11_findFresh_280 : decode cX11_findFresh 280 = .ok (.iload 5, 2) := by decide +kernel
theorem dX11_findFresh_282 : decode cX11_findFresh 282 = .ok (.putfield 385, 3) := by decide +kernel
theorem dX11_findFresh_285 : decode cX11_findFresh 285 = .ok (.iconst 2, 1) := by decide +kernel
theorem dX11_findFresh_286 : decode cX11_findFresh 286 = .ok (.ireturn, 1) := by decide +kernel
theorem dX11_findFresh_287 : decode cX11_findFresh 287 = .ok (.iinc 4 1, 3) := by decide +kernel
theorem dX11_findFresh_290 : decode cX11_findFresh 290 = .ok (.goto (-105), 3) := by decide +kernel
theorem dX11_findFresh_293 : decode cX11_findFresh 293 = .ok (.aload_n 0, 1) := by decide +kernel
theorem dX11_findFresh_294 : decode cX11_findFresh 294 = .ok (.iload_n 3, 1) := by decide +kernel
theorem dX11_findFresh_295 : decode cX11_findFresh 295 = .ok (.iconst 0, 1) := by decide +kernel
theorem dX11_findFresh_296 : decode cX11_findFresh 296 = .ok (.invokevirtual 394, 3) := by decide +kernel
theorem dX11_findFresh_299 : decode cX11_findFresh 299 = .ok (.iinc 2 1, 3) := by decide +kernel
theorem dX11_findFresh_302 : decode cX11_findFresh 302 = .ok (.goto (-177), 3) := by decide +kernel
theorem dX11_findFresh_305 : decode cX11_findFresh 305 = .ok (.iconst (-1), 1) := by decide +kernel
theorem dX11_findFresh_306 : decode cX11_findFresh 306 = .ok (.ireturn, 1) := by decide +kernel
theorem dX11_fresh_0 : decode cX11_fresh 0 = .ok (.aload_n 0, 1) := by decide +kernel
theorem dX11_fresh_1 : decode cX11_fresh 1 = .ok (.iload_n 1, 1) := by decide +kernel
theorem dX11_fresh_2 : decode cX11_fresh 2 = .ok (.invokevirtual 309, 3) := by decide +kernel
theorem dX11_fresh_5 : decode cX11_fresh 5 = .ok (.ifCond .ne 7, 3) := by decide +kernel
theorem dX11_fresh_8 : decode cX11_fresh 8 = .ok (.sipush (-1001), 3) := by decide +kernel
theorem dX11_fresh_11 : decode cX11_fresh 11 = .ok (.ireturn, 1) := by decide +kernel
theorem dX11_fresh_12 : decode cX11_fresh 12 = .ok (.iload_n 2, 1) := by decide +kernel
theorem dX11_fresh_13 : decode cX11_fresh 13 = .ok (.invokestatic 375, 3) := by decide +kernel
theorem dX11_fresh_16 : decode cX11_fresh 16 = .ok (.ifCond .eq 15, 3) := by decide +kernel
theorem dX11_fresh_19 : decode cX11_fresh 19 = .ok (.iload_n 3, 1) := by decide +kernel
theorem dX11_fresh_20 : decode cX11_fresh 20 = .ok (.i2l, 1) := by decide +kernel
theorem dX11_fresh_21 : decode cX11_fresh 21 = .ok (.lconst 0, 1) := by decide +kernel
theorem dX11_fresh_22 : decode cX11_fresh 22 = .ok (.ldc2_w 397, 3) := by decide +kernel
theorem dX11_fresh_25 : decode cX11_fresh 25 = .ok (.invokestatic 144, 3) := by decide +kernel
theorem dX11_fresh_28 : decode cX11_fresh 28 = .ok (.ifCond .ne 7, 3) := by decide +kernel
theorem dX11_fresh_31 : decode cX11_fresh 31 = .ok (.sipush (-1002), 3) := by decide +kernel
theorem dX11_fresh_34 : decode cX11_fresh 34 = .ok (.ireturn, 1) := by decide +kernel
theorem dX11_fresh_35 : decode cX11_fresh 35 = .ok (.aload_n 0, 1) := by decide +kernel
theorem dX11_fresh_36 : decode cX11_fresh 36 = .ok (.aload_n 0, 1) := by decide +kernel
theorem dX11_fresh_37 : decode cX11_fresh 37 = .ok (.getfield 31, 3) := by decide +kernel
theorem dX11_fresh_40 : decode cX11_fresh 40 = .ok (.iload_n 1, 1) := by decide +kernel
theorem dX11_fresh_41 : decode cX11_fresh 41 = .ok (.iaload, 1) := by decide +kernel
theorem dX11_fresh_42 : decode cX11_fresh 42 = .ok (.iconst 1, 1) := by decide +kernel
theorem dX11_fresh_43 : decode cX11_fresh 43 = .ok (.invokevirtual 357, 3) := by decide +kernel
theorem dX11_fresh_46 : decode cX11_fresh 46 = .ok (.aload_n 0, 1) := by decide +kernel
theorem dX11_fresh_47 : decode cX11_fresh 47 = .ok (.iconst 0, 1) := by decide +kernel
theorem dX11_fresh_48 : decode cX11_fresh 48 = .ok (.invokevirtual 368, 3) := by decide +kernel
theorem dX11_fresh_51 : decode cX11_fresh 51 = .ok (.aload_n 0, 1) := by decide +kernel
theorem dX11_fresh_52 : decode cX11_fresh 52 = .ok (.iload_n 2, 1) := by decide +kernel
theorem dX11_fresh_53 : decode cX11_fresh 53 = .ok (.invokevirtual 399, 3) := by decide +kernel
theorem dX11_fresh_56 : decode cX11_fresh 56 = .ok (.istore 4, 2) := by decide +kernel
theorem dX11_fresh_58 : decode cX11_fresh 58 = .ok (.iload_n 3, 1) := by decide +kernel
theorem dX11_fresh_59 : decode cX11_fresh 59 = .ok (.ifCond .ne 8, 3) := by decide +kernel
theorem dX11_fresh_62 : decode cX11_fresh 62 = .ok (.iload 4, 2) := by decide +kernel
theorem dX11_fresh_64 : decode cX11_fresh 64 = .ok (.goto 19, 3) := by decide +kernel
theorem dX11_fresh_67 : decode cX11_fresh 67 = .ok (.iload_n 3, 1) := by decide +kernel
theorem dX11_fresh_68 : decode cX11_fresh 68 = .ok (.iconst 1, 1) := by decide +kernel
theorem dX11_fresh_69 : decode cX11_fresh 69 = .ok (.if_icmp .ne 10, 3) := by decide +kernel
theorem dX11_fresh_72 : decode cX11_fresh 72 = .ok (.aload_n 0, 1) := by decide +kernel
theorem dX11_fresh_73 : decode cX11_fresh 73 = .ok (.getfield 382, 3) := by decide +kernel
theorem dX11_fresh_76 : decode cX11_fresh 76 = .ok (.goto 7, 3) := by decide +kernel
theorem dX11_fresh_79 : decode cX11_fresh 79 = .ok (.aload_n 0, 1) := by decide +kernel
theorem dX11_fresh_80 : decode cX11_fresh 80 = .ok (.getfield 385, 3) := by decide +kernel
theorem dX11_fresh_83 : decode cX11_fresh 83 = .ok (.ireturn, 1) := by decide +kernel
theorem dX11_tryOn_0 : decode cX11_tryOn 0 = .ok (.aload_n 0, 1) := by decide +kernel
theorem dX11_tryOn_1 : decode cX11_tryOn 1 = .ok (.getfield 105, 3) := by decide +kernel
theorem dX11_tryOn_4 : decode cX11_tryOn 4 = .ok (.aload_n 0, 1) := by decide +kernel
theorem dX11_tryOn_5 : decode cX11_tryOn 5 = .ok (.getfield 402, 3) := by decide +kernel
theorem dX11_tryOn_8 : decode cX11_tryOn 8 = .ok (.iload_n 1, 1) := by decide +kernel
theorem dX11_tryOn_9 : decode cX11_tryOn 9 = .ok (.iastore, 1) := by decide +kernel
theorem dX11_tryOn_10 : decode cX11_tryOn 10 = .ok (.aload_n 0, 1) := by decide +kernel
theorem dX11_tryOn_11 : decode cX11_tryOn 11 = .ok (.getfield 108, 3) := by decide +kernel
theorem dX11_tryOn_14 : decode cX11_tryOn 14 = .ok (.aload_n 0, 1) := by decide +kernel
theorem dX11_tryOn_15 : decode cX11_tryOn 15 = .ok (.getfield 402, 3) := by decide +kernel
theorem dX11_tryOn_18 : decode cX11_tryOn 18 = .ok (.iload_n 2, 1) := by decide +kernel
theorem dX11_tryOn_19 : decode cX11_tryOn 19 = .ok (.iastore, 1) := by decide +kernel
theorem dX11_tryOn_20 : decode cX11_tryOn 20 = .ok (.aload_n 0, 1) := by decide +kernel
theorem dX11_tryOn_21 : decode cX11_tryOn 21 = .ok (.dup, 1) := by decide +kernel
theorem dX11_tryOn_22 : decode cX11_tryOn 22 = .ok (.getfield 402, 3) := by decide +kernel
theorem dX11_tryOn_25 : decode cX11_tryOn 25 = .ok (.iconst 1, 1) := by decide +kernel
theorem dX11_tryOn_26 : decode cX11_tryOn 26 = .ok (.iadd, 1) := by decide +kernel
theorem dX11_tryOn_27 : decode cX11_tryOn 27 = .ok (.putfield 402, 3) := by decide +kernel
theorem dX11_tryOn_30 : decode cX11_tryOn 30 = .ok (.return_, 1) := by decide +kernel
theorem dX11_turnOf_0 : decode cX11_turnOf 0 = .ok (.iconst (-1), 1) := by decide +kernel
theorem dX11_turnOf_1 : decode cX11_turnOf 1 = .ok (.istore_n 3, 1) := by decide +kernel
theorem dX11_turnOf_2 : decode cX11_turnOf 2 = .ok (.iconst 0, 1) := by decide +kernel
theorem dX11_turnOf_3 : decode cX11_turnOf 3 = .ok (.istore 4, 2) := by decide +kernel
theorem dX11_turnOf_5 : decode cX11_turnOf 5 = .ok (.iload 4, 2) := by decide +kernel
theorem dX11_turnOf_7 : decode cX11_turnOf 7 = .ok (.aload_n 0, 1) := by decide +kernel
theorem dX11_turnOf_8 : decode cX11_turnOf 8 = .ok (.getfield 240, 3) := by decide +kernel
theorem dX11_turnOf_11 : decode cX11_turnOf 11 = .ok (.if_icmp .ge 38, 3) := by decide +kernel
theorem dX11_turnOf_14 : decode cX11_turnOf 14 = .ok (.aload_n 0, 1) := by decide +kernel
theorem dX11_turnOf_15 : decode cX11_turnOf 15 = .ok (.getfield 13, 3) := by decide +kernel
theorem dX11_turnOf_18 : decode cX11_turnOf 18 = .ok (.iload 4, 2) := by decide +kernel
theorem dX11_turnOf_20 : decode cX11_turnOf 20 = .ok (.iaload, 1) := by decide +kernel
theorem dX11_turnOf_21 : decode cX11_turnOf 21 = .ok (.iload_n 1, 1) := by decide +kernel
theorem dX11_turnOf_22 : decode cX11_turnOf 22 = .ok (.if_icmp .ne 19, 3) := by decide +kernel
theorem dX11_turnOf_25 : decode cX11_turnOf 25 = .ok (.aload_n 0, 1) := by decide +kernel
theorem dX11_turnOf_26 : decode cX11_turnOf 26 = .ok (.getfield 16, 3) := by decide +kernel
theorem dX11_turnOf_29 : decode cX11_turnOf 29 = .ok (.iload 4, 2) := by decide +kernel
theorem dX11_turnOf_31 : decode cX11_turnOf 31 = .ok (.iaload, 1) := by decide +kernel
theorem dX11_turnOf_32 : decode cX11_turnOf 32 = .ok (.iload_n 2, 1) := by decide +kernel
theorem dX11_turnOf_33 : decode cX11_turnOf 33 = .ok (.if_icmp .ne 8, 3) := by decide +kernel
theorem dX11_turnOf_36 : decode cX11_turnOf 36 = .ok (.iload 4, 2) := by decide +kernel
theorem dX11_turnOf_38 : decode cX11_turnOf 38 = .ok (.goto 4, 3) := by decide +kernel
theorem dX11_turnOf_41 : decode cX11_turnOf 41 = .ok (.iload_n 3, 1) := by decide +kernel
theorem dX11_turnOf_42 : decode cX11_turnOf 42 = .ok (.istore_n 3, 1) := by decide +kernel
theorem dX11_turnOf_43 : decode cX11_turnOf 43 = .ok (.iinc 4 1, 3) := by decide +kernel
theorem dX11_turnOf_46 : decode cX11_turnOf 46 = .ok (.goto (-41), 3) := by decide +kernel
theorem dX11_turnOf_49 : decode cX11_turnOf 49 = .ok (.iload_n 3, 1) := by decide +kernel
theorem dX11_turnOf_50 : decode cX11_turnOf 50 = .ok (.ireturn, 1) := by decide +kernel
theorem dX11_carryOn_0 : decode cX11_carryOn 0 = .ok (.aload_n 0, 1) := by decide +kernel
theorem dX11_carryOn_1 : decode cX11_carryOn 1 = .ok (.iconst 0, 1) := by decide +kernel
theorem dX11_carryOn_2 : decode cX11_carryOn 2 = .ok (.putfield 402, 3) := by decide +kernel
theorem dX11_carryOn_5 : decode cX11_carryOn 5 = .ok (.aload_n 0, 1) := by decide +kernel
theorem dX11_carryOn_6 : decode cX11_carryOn 6 = .ok (.aload_n 0, 1) := by decide +kernel
theorem dX11_carryOn_7 : decode cX11_carryOn 7 = .ok (.iload_n 3, 1) := by decide +kernel
theorem dX11_carryOn_8 : decode cX11_carryOn 8 = .ok (.invokevirtual 246, 3) := by decide +kernel
theorem dX11_carryOn_11 : decode cX11_carryOn 11 = .ok (.iload_n 2, 1) := by decide +kernel
theorem dX11_carryOn_12 : decode cX11_carryOn 12 = .ok (.invokevirtual 405, 3) := by decide +kernel
theorem dX11_carryOn_15 : decode cX11_carryOn 15 = .ok (.iconst 0, 1) := by decide +kernel
theorem dX11_carryOn_16 : decode cX11_carryOn 16 = .ok (.istore 4, 2) := by decide +kernel
theorem dX11_carryOn_18 : decode cX11_carryOn 18 = .ok (.iload 4, 2) := by decide +kernel
theorem dX11_carryOn_20 : decode cX11_carryOn 20 = .ok (.aload_n 0, 1) := by decide +kernel
theorem dX11_carryOn_21 : decode cX11_carryOn 21 = .ok (.getfield 402, 3) := by decide +kernel
theorem dX11_carryOn_24 : decode cX11_carryOn 24 = .ok (.if_icmp .ge 183, 3) := by decide +kernel
theorem dX11_carryOn_27 : decode cX11_carryOn 27 = .ok (.aload_n 0, 1) := by decide +kernel
theorem dX11_carryOn_28 : decode cX11_carryOn 28 = .ok (.getfield 105, 3) := by decide +kernel
theorem dX11_carryOn_31 : decode cX11_carryOn 31 = .ok (.iload 4, 2) := by decide +kernel
theorem dX11_carryOn_33 : decode cX11_carryOn 33 = .ok (.iaload, 1) := by decide +kernel
theorem dX11_carryOn_34 : decode cX11_carryOn 34 = .ok (.istore 5, 2) := by decide +kernel
theorem dX11_carryOn_36 : decode cX11_carryOn 36 = .ok (.aload_n 0, 1) := by decide +kernel
theorem dX11_carryOn_37 : decode cX11_carryOn 37 = .ok (.aload_n 0, 1) := by decide +kernel
theorem dX11_carryOn_38 : decode cX11_carryOn 38 = .ok (.getfield 108, 3) := by decide +kernel
theorem dX11_carryOn_41 : decode cX11_carryOn 41 = .ok (.iload 4, 2) := by decide +kernel
theorem dX11_carryOn_43 : decode cX11_carryOn 43 = .ok (.iaload, 1) := by decide +kernel
theorem dX11_carryOn_44 : decode cX11_carryOn 44 = .ok (.putfield 62, 3) := by decide +kernel
theorem dX11_carryOn_47 : decode cX11_carryOn 47 = .ok (.aload_n 0, 1) := by decide +kernel
theorem dX11_carryOn_48 : decode cX11_carryOn 48 = .ok (.iload 5, 2) := by decide +kernel
theorem dX11_carryOn_50 : decode cX11_carryOn 50 = .ok (.invokevirtual 303, 3) := by decide +kernel
theorem dX11_carryOn_53 : decode cX11_carryOn 53 = .ok (.ifCond .eq 26, 3) := by decide +kernel
theorem dX11_carryOn_56 : decode cX11_carryOn 56 = .ok (.aload_n 0, 1) := by decide +kernel
theorem dX11_carryOn_57 : decode cX11_carryOn 57 = .ok (.getfield 101, 3) := by decide +kernel
theorem dX11_carryOn_60 : decode cX11_carryOn 60 = .ok (.sipush 256, 3) := by decide +kernel
theorem dX11_carryOn_63 : decode cX11_carryOn 63 = .ok (.iload_n 1, 1) := by decide +kernel
theorem dX11_carryOn_64 : decode cX11_carryOn 64 = .ok (.iconst 1, 1) := by decide +kernel
theorem dX11_carryOn_65 : decode cX11_carryOn 65 = .ok (.iload_n 3, 1) := by decide +kernel
theorem dX11_carryOn_66 : decode cX11_carryOn 66 = .ok (.ishl, 1) := by decide +kernel
theorem dX11_carryOn_67 : decode cX11_carryOn 67 = .ok (.ior, 1) := by decide +kernel
theorem dX11_carryOn_68 : decode cX11_carryOn 68 = .ok (.imul, 1) := by decide +kernel
theorem dX11_carryOn_69 : decode cX11_carryOn 69 = .ok (.aload_n 0, 1) := by decide +kernel
theorem dX11_carryOn_70 : decode cX11_carryOn 70 = .ok (.getfield 62, 3) := by decide +kernel
theorem dX11_carryOn_73 : decode cX11_carryOn 73 = .ok (.iadd, 1) := by decide +kernel
theorem dX11_carryOn_74 : decode cX11_carryOn 74 = .ok (.iconst 1, 1) := by decide +kernel
theorem dX11_carryOn_75 : decode cX11_carryOn 75 = .ok (.bastore, 1) := by decide +kernel
theorem dX11_carryOn_76 : decode cX11_carryOn 76 = .ok (.goto 125, 3) := by decide +kernel
theorem dX11_carryOn_79 : decode cX11_carryOn 79 = .ok (.aload_n 0, 1) := by decide +kernel
theorem dX11_carryOn_80 : decode cX11_carryOn 80 = .ok (.iload 5, 2) := by decide +kernel
theorem dX11_carryOn_82 : decode cX11_carryOn 82 = .ok (.iconst 0, 1) := by decide +kernel
theorem dX11_carryOn_83 : decode cX11_carryOn 83 = .ok (.invokevirtual 306, 3) := by decide +kernel
theorem dX11_carryOn_86 : decode cX11_carryOn 86 = .ok (.ifCond .ne 13, 3) := by decide +kernel
theorem dX11_carryOn_89 : decode cX11_carryOn 89 = .ok (.aload_n 0, 1) := by decide +kernel
theorem dX11_carryOn_90 : decode cX11_carryOn 90 = .ok (.iload 5, 2) := by decide +kernel
theorem dX11_carryOn_92 : decode cX11_carryOn 92 = .ok (.iconst 1, 1) := by decide +kernel
theorem dX11_carryOn_93 : decode cX11_carryOn 93 = .ok (.invokevirtual 306, 3) := by decide +kernel
theorem dX11_carryOn_96 : decode cX11_carryOn 96 = .ok (.ifCond .eq 105, 3) := by decide +kernel
theorem dX11_carryOn_99 : decode cX11_carryOn 99 = .ok (.aload_n 0, 1) := by decide +kernel
theorem dX11_carryOn_100 : decode cX11_carryOn 100 = .ok (.iload 5, 2) := by decide +kernel
theorem dX11_carryOn_102 : decode cX11_carryOn 102 = .ok (.iload 5, 2) := by decide +kernel
theorem dX11_carryOn_104 : decode cX11_carryOn 104 = .ok (.invokestatic 277, 3) := by decide +kernel
theorem dX11_carryOn_107 : decode cX11_carryOn 107 = .ok (.invokevirtual 306, 3) := by decide +kernel
theorem dX11_carryOn_110 : decode cX11_carryOn 110 = .ok (.istore 6, 2) := by decide +kernel
theorem dX11_carryOn_112 : decode cX11_carryOn 112 = .ok (.iload 6, 2) := by decide +kernel
theorem dX11_carryOn_114 : decode cX11_carryOn 114 = .ok (.ifCond .ne 18, 3) := by decide +kernel
theorem dX11_carryOn_117 : decode cX11_carryOn 117 = .ok (.aload_n 0, 1) := by decide +kernel
theorem dX11_carryOn_118 : decode cX11_carryOn 118 = .ok (.aload_n 0, 1) := by decide +kernel
theorem dX11_carryOn_119 : decode cX11_carryOn 119 = .ok (.iload 5, 2) := by decide +kernel
theorem dX11_carryOn_121 : decode cX11_carryOn 121 = .ok (.iconst (-1), 1) := by decide +kernel
theorem dX11_carryOn_122 : decode cX11_carryOn 122 = .ok (.invokevirtual 337, 3) := by decide +kernel
theorem dX11_carryOn_125 : decode cX11_carryOn 125 = .ok (.aload_n 0, 1) := by decide +kernel
theorem dX11_carryOn_126 : decode cX11_carryOn 126 = .ok (.getfield 62, 3) := by decide +kernel
theorem dX11_carryOn_129 : decode cX11_carryOn 129 = .ok (.invokevirtual 405, 3) := by decide +kernel
theorem dX11_carryOn_132 : decode cX11_carryOn 132 = .ok (.aload_n 0, 1) := by decide +kernel
theorem dX11_carryOn_133 : decode cX11_carryOn 133 = .ok (.getfield 62, 3) := by decide +kernel
theorem dX11_carryOn_136 : decode cX11_carryOn 136 = .ok (.istore 7, 2) := by decide +kernel
theorem dX11_carryOn_138 : decode cX11_carryOn 138 = .ok (.iconst 0, 1) := by decide +kernel
theorem dX11_carryOn_139 : decode cX11_carryOn 139 = .ok (.istore 8, 2) := by decide +kernel
theorem dX11_carryOn_141 : decode cX11_carryOn 141 = .ok (.iload 8, 2) := by decide +kernel
theorem dX11_carryOn_143 : decode cX11_carryOn 143 = .ok (.aload_n 0, 1) := by decide +kernel
theorem dX11_carryOn_144 : decode cX11_carryOn 144 = .ok (.getfield 141, 3) := by decide +kernel
theorem dX11_carryOn_147 : decode cX11_carryOn 147 = .ok (.if_icmp .ge 54, 3) := by decide +kernel
theorem dX11_carryOn_150 : decode cX11_carryOn 150 = .ok (.iload 6, 2) := by decide +kernel
theorem dX11_carryOn_152 : decode cX11_carryOn 152 = .ok (.iload 8, 2) := by decide +kernel
theorem dX11_carryOn_154 : decode cX11_carryOn 154 = .ok (.invokestatic 287, 3) := by decide +kernel
theorem dX11_carryOn_157 : decode cX11_carryOn 157 = .ok (.ifCond .eq 38, 3) := by decide +kernel
theorem dX11_carryOn_160 : decode cX11_carryOn 160 = .ok (.aload_n 0, 1) := by decide +kernel
theorem dX11_carryOn_161 : decode cX11_carryOn 161 = .ok (.aload_n 0, 1) := by decide +kernel
theorem dX11_carryOn_162 : decode cX11_carryOn 162 = .ok (.iload 5, 2) := by decide +kernel
theorem dX11_carryOn_164 : decode cX11_carryOn 164 = .ok (.iload 8, 2) := by decide +kernel
theorem dX11_carryOn_166 : decode cX11_carryOn 166 = .ok (.invokevirtual 337, 3) := by decide +kernel
theorem dX11_carryOn_169 : decode cX11_carryOn 169 = .ok (.iload 7, 2) := by decide +kernel
theorem dX11_carryOn_171 : decode cX11_carryOn 171 = .ok (.iconst 1, 1) := by decide +kernel
theorem dX11_carryOn_172 : decode cX11_carryOn 172 = .ok (.aload_n 0, 1) := by decide +kernel
theorem dX11_carryOn_173 : decode cX11_carryOn 173 = .ok (.iload 8, 2) := by decide +kernel
theorem dX11_carryOn_175 : decode cX11_carryOn 175 = .ok (.iload 5, 2) := by decide +kernel
theorem dX11_carryOn_177 : decode cX11_carryOn 177 = .ok (.iload 5, 2) := by decide +kernel
theorem dX11_carryOn_179 : decode cX11_carryOn 179 = .ok (.invokestatic 277, 3) := by decide +kernel
theorem dX11_carryOn_182 : decode cX11_carryOn 182 = .ok (.invokestatic 291, 3) := by decide +kernel
theorem dX11_carryOn_185 : decode cX11_carryOn 185 = .ok (.invokevirtual 408, 3) := by decide +kernel
theorem dX11_carryOn_188 : decode cX11_carryOn 188 = .ok (.ishl, 1) := by decide +kernel
theorem dX11_carryOn_189 : decode cX11_carryOn 189 = .ok (.iconst (-1), 1) := by decide +kernel
theorem dX11_carryOn_190 : decode cX11_carryOn 190 = .ok (.ixor, 1) := by decide +kernel
theorem dX11_carryOn_191 : decode cX11_carryOn 191 = .ok (.iand, 1) := by decide +kernel
theorem dX11_carryOn_192 : decode cX11_carryOn 192 = .ok (.invokevirtual 405, 3) := by decide +kernel
theorem dX11_carryOn_195 : decode cX11_carryOn 195 = .ok (.iinc 8 1, 3) := by decide +kernel
theorem dX11_carryOn_198 : decode cX11_carryOn 198 = .ok (.goto (-57), 3) := by decide +kernel
theorem dX11_carryOn_201 : decode cX11_carryOn 201 = .ok (.iinc 4 1, 3) := by decide +kernel
theorem dX11_carryOn_204 : decode cX11_carryOn 204 = .ok (.goto (-186), 3) := by decide +kernel
theorem dX11_carryOn_207 : decode cX11_carryOn 207 = .ok (.aload_n 0, 1) := by decide +kernel
theorem dX11_carryOn_208 : decode cX11_carryOn 208 = .ok (.iconst (-1), 1) := by decide +kernel
theorem dX11_carryOn_209 : decode cX11_carryOn 209 = .ok (.putfield 62, 3) := by decide +kernel
theorem dX11_carryOn_212 : decode cX11_carryOn 212 = .ok (.return_, 1) := by decide +kernel
theorem dX11_mostSet_0 : decode cX11_mostSet 0 = .ok (.iconst 0, 1) := by decide +kernel
theorem dX11_mostSet_1 : decode cX11_mostSet 1 = .ok (.istore_n 2, 1) := by decide +kernel
theorem dX11_mostSet_2 : decode cX11_mostSet 2 = .ok (.iload_n 2, 1) := by decide +kernel
theorem dX11_mostSet_3 : decode cX11_mostSet 3 = .ok (.sipush 4096, 3) := by decide +kernel
theorem dX11_mostSet_6 : decode cX11_mostSet 6 = .ok (.if_icmp .ge 16, 3) := by decide +kernel
theorem dX11_mostSet_9 : decode cX11_mostSet 9 = .ok (.aload_n 0, 1) := by decide +kernel
theorem dX11_mostSet_10 : decode cX11_mostSet 10 = .ok (.getfield 101, 3) := by decide +kernel
theorem dX11_mostSet_13 : decode cX11_mostSet 13 = .ok (.iload_n 2, 1) := by decide +kernel
theorem dX11_mostSet_14 : decode cX11_mostSet 14 = .ok (.iconst 0, 1) := by decide +kernel
theorem dX11_mostSet_15 : decode cX11_mostSet 15 = .ok (.bastore, 1) := by decide +kernel
theorem dX11_mostSet_16 : decode cX11_mostSet 16 = .ok (.iinc 2 1, 3) := by decide +kernel
theorem dX11_mostSet_19 : decode cX11_mostSet 19 = .ok (.goto (-17), 3) := by decide +kernel
theorem dX11_mostSet_22 : decode cX11_mostSet 22 = .ok (.aload_n 0, 1) := by decide +kernel
theorem dX11_mostSet_23 : decode cX11_mostSet 23 = .ok (.getfield 101, 3) := by decide +kernel
theorem dX11_mostSet_26 : decode cX11_mostSet 26 = .ok (.iload_n 1, 1) := by decide +kernel
theorem dX11_mostSet_27 : decode cX11_mostSet 27 = .ok (.iconst 1, 1) := by decide +kernel
theorem dX11_mostSet_28 : decode cX11_mostSet 28 = .ok (.bastore, 1) := by decide +kernel
theorem dX11_mostSet_29 : decode cX11_mostSet 29 = .ok (.iconst 0, 1) := by decide +kernel
theorem dX11_mostSet_30 : decode cX11_mostSet 30 = .ok (.istore_n 2, 1) := by decide +kernel
theorem dX11_mostSet_31 : decode cX11_mostSet 31 = .ok (.iconst 0, 1) := by decide +kernel
theorem dX11_mostSet_32 : decode cX11_mostSet 32 = .ok (.istore_n 3, 1) := by decide +kernel
theorem dX11_mostSet_33 : decode cX11_mostSet 33 = .ok (.iload_n 3, 1) := by decide +kernel
theorem dX11_mostSet_34 : decode cX11_mostSet 34 = .ok (.iconst 1, 1) := by decide +kernel
theorem dX11_mostSet_35 : decode cX11_mostSet 35 = .ok (.aload_n 0, 1) := by decide +kernel
theorem dX11_mostSet_36 : decode cX11_mostSet 36 = .ok (.getfield 148, 3) := by decide +kernel
theorem dX11_mostSet_39 : decode cX11_mostSet 39 = .ok (.ishl, 1) := by decide +kernel
theorem dX11_mostSet_40 : decode cX11_mostSet 40 = .ok (.if_icmp .ge 106, 3) := by decide +kernel
theorem dX11_mostSet_43 : decode cX11_mostSet 43 = .ok (.iconst 0, 1) := by decide +kernel
theorem dX11_mostSet_44 : decode cX11_mostSet 44 = .ok (.istore 4, 2) := by decide +kernel
theorem dX11_mostSet_46 : decode cX11_mostSet 46 = .ok (.iconst 0, 1) := by decide +kernel
theorem dX11_mostSet_47 : decode cX11_mostSet 47 = .ok (.istore 5, 2) := by decide +kernel
theorem dX11_mostSet_49 : decode cX11_mostSet 49 = .ok (.iload 5, 2) := by decide +kernel
theorem dX11_mostSet_51 : decode cX11_mostSet 51 = .ok (.sipush 256, 3) := by decide +kernel
theorem dX11_mostSet_54 : decode cX11_mostSet 54 = .ok (.if_icmp .ge 64, 3) := by decide +kernel
theorem dX11_mostSet_57 : decode cX11_mostSet 57 = .ok (.aload_n 0, 1) := by decide +kernel
theorem dX11_mostSet_58 : decode cX11_mostSet 58 = .ok (.getfield 101, 3) := by decide +kernel
theorem dX11_mostSet_61 : decode cX11_mostSet 61 = .ok (.sipush 256, 3) := by decide +kernel
theorem dX11_mostSet_64 : decode cX11_mostSet 64 = .ok (.iload_n 3, 1) := by decide +kernel
theorem dX11_mostSet_65 : decode cX11_mostSet 65 = .ok (.imul, 1) := by decide +kernel
theorem dX11_mostSet_66 : decode cX11_mostSet 66 = .ok (.iload 5, 2) := by decide +kernel
theorem dX11_mostSet_68 : decode cX11_mostSet 68 = .ok (.iadd, 1) := by decide +kernel
theorem dX11_mostSet_69 : decode cX11_mostSet 69 = .ok (.baload, 1) := by decide +kernel
theorem dX11_mostSet_70 : decode cX11_mostSet 70 = .ok (.ifCond .eq 42, 3) := by decide +kernel
theorem dX11_mostSet_73 : decode cX11_mostSet 73 = .ok (.iconst 1, 1) := by decide +kernel
theorem dX11_mostSet_74 : decode cX11_mostSet 74 = .ok (.istore 4, 2) := by decide +kernel
theorem dX11_mostSet_76 : decode cX11_mostSet 76 = .ok (.iconst 0, 1) := by decide +kernel
theorem dX11_mostSet_77 : decode cX11_mostSet 77 = .ok (.istore 6, 2) := by decide +kernel
theorem dX11_mostSet_79 : decode cX11_mostSet 79 = .ok (.iload 6, 2) := by decide +kernel
theorem dX11_mostSet_81 : decode cX11_mostSet 81 = .ok (.aload_n 0, 1) := by decide +kernel
theorem dX11_mostSet_82 : decode cX11_mostSet 82 = .ok (.getfield 148, 3) := by decide +kernel
theorem dX11_mostSet_85 : decode cX11_mostSet 85 = .ok (.if_icmp .ge 27, 3) := by decide +kernel
theorem dX11_mostSet_88 : decode cX11_mostSet 88 = .ok (.iload_n 3, 1) := by decide +kernel
theorem dX11_mostSet_89 : decode cX11_mostSet 89 = .ok (.iload 6, 2) := by decide +kernel
theorem dX11_mostSet_91 : decode cX11_mostSet 91 = .ok (.invokestatic 287, 3) := by decide +kernel
theorem dX11_mostSet_94 : decode cX11_mostSet 94 = .ok (.ifCond .ne 12, 3) := by decide +kernel
theorem dX11_mostSet_97 : decode cX11_mostSet 97 = .ok (.aload_n 0, 1) := by decide +kernel
theorem dX11_mostSet_98 : decode cX11_mostSet 98 = .ok (.iload_n 3, 1) := by decide +kernel
theorem dX11_mostSet_99 : decode cX11_mostSet 99 = .ok (.iload 5, 2) := by decide +kernel
theorem dX11_mostSet_101 : decode cX11_mostSet 101 = .ok (.iload 6, 2) := by decide +kernel
theorem dX11_mostSet_103 : decode cX11_mostSet 103 = .ok (.invokevirtual 411, 3) := by decide +kernel
theorem dX11_mostSet_106 : decode cX11_mostSet 106 = .ok (.iinc 6 1, 3) := by decide +kernel
theorem dX11_mostSet_109 : decode cX11_mostSet 109 = .ok (.goto (-30), 3) := by decide +kernel
theorem dX11_mostSet_112 : decode cX11_mostSet 112 = .ok (.iinc 5 1, 3) := by decide +kernel
theorem dX11_mostSet_115 : decode cX11_mostSet 115 = .ok (.goto (-66), 3) := by decide +kernel
theorem dX11_mostSet_118 : decode cX11_mostSet 118 = .ok (.iload 4, 2) := by decide +kernel
theorem dX11_mostSet_120 : decode cX11_mostSet 120 = .ok (.ifCond .eq 18, 3) := by decide +kernel
theorem dX11_mostSet_123 : decode cX11_mostSet 123 = .ok (.iload_n 3, 1) := by decide +kernel
theorem dX11_mostSet_124 : decode cX11_mostSet 124 = .ok (.invokestatic 328, 3) := by decide +kernel
theorem dX11_mostSet_127 : decode cX11_mostSet 127 = .ok (.iload_n 2, 1) := by decide +kernel
theorem dX11_mostSet_128 : decode cX11_mostSet 128 = .ok (.invokestatic 328, 3) := by decide +kernel
theorem dX11_mostSet_131 : decode cX11_mostSet 131 = .ok (.if_icmp .le 7, 3) := by decide +kernel
theorem dX11_mostSet_134 : decode cX11_mostSet 134 = .ok (.iload_n 3, 1) := by decide +kernel
theorem dX11_mostSet_135 : decode cX11_mostSet 135 = .ok (.goto 4, 3) := by decide +kernel
theorem dX11_mostSet_138 : decode cX11_mostSet 138 = .ok (.iload_n 2, 1) := by decide +kernel
theorem dX11_mostSet_139 : decode cX11_mostSet 139 = .ok (.istore_n 2, 1) := by decide +kernel
theorem dX11_mostSet_140 : decode cX11_mostSet 140 = .ok (.iinc 3 1, 3) := by decide +kernel
theorem dX11_mostSet_143 : decode cX11_mostSet 143 = .ok (.goto (-110), 3) := by decide +kernel
theorem dX11_mostSet_146 : decode cX11_mostSet 146 = .ok (.iload_n 2, 1) := by decide +kernel
theorem dX11_mostSet_147 : decode cX11_mostSet 147 = .ok (.ireturn, 1) := by decide +kernel
theorem dX11_most_0 : decode cX11_most 0 = .ok (.iload_n 1, 1) := by decide +kernel
theorem dX11_most_1 : decode cX11_most 1 = .ok (.i2l, 1) := by decide +kernel
theorem dX11_most_2 : decode cX11_most 2 = .ok (.lconst 0, 1) := by decide +kernel
theorem dX11_most_3 : decode cX11_most 3 = .ok (.lconst 1, 1) := by decide +kernel
theorem dX11_most_4 : decode cX11_most 4 = .ok (.invokestatic 144, 3) := by decide +kernel
theorem dX11_most_7 : decode cX11_most 7 = .ok (.ifCond .ne 7, 3) := by decide +kernel
theorem dX11_most_10 : decode cX11_most 10 = .ok (.sipush (-1002), 3) := by decide +kernel
theorem dX11_most_13 : decode cX11_most 13 = .ok (.ireturn, 1) := by decide +kernel
theorem dX11_most_14 : decode cX11_most 14 = .ok (.aload_n 0, 1) := by decide +kernel
theorem dX11_most_15 : decode cX11_most 15 = .ok (.getfield 240, 3) := by decide +kernel
theorem dX11_most_18 : decode cX11_most 18 = .ok (.bipush 8, 2) := by decide +kernel
theorem dX11_most_20 : decode cX11_most 20 = .ok (.if_icmp .le 7, 3) := by decide +kernel
theorem dX11_most_23 : decode cX11_most 23 = .ok (.sipush (-1003), 3) := by decide +kernel
theorem dX11_most_26 : decode cX11_most 26 = .ok (.ireturn, 1) := by decide +kernel
theorem dX11_most_27 : decode cX11_most 27 = .ok (.aload_n 0, 1) := by decide +kernel
theorem dX11_most_28 : decode cX11_most 28 = .ok (.iconst 1, 1) := by decide +kernel
theorem dX11_most_29 : decode cX11_most 29 = .ok (.aload_n 0, 1) := by decide +kernel
theorem dX11_most_30 : decode cX11_most 30 = .ok (.getfield 240, 3) := by decide +kernel
theorem dX11_most_33 : decode cX11_most 33 = .ok (.ishl, 1) := by decide +kernel
theorem dX11_most_34 : decode cX11_most 34 = .ok (.iconst 1, 1) := by decide +kernel
theorem dX11_most_35 : decode cX11_most 35 = .ok (.isub, 1) := by decide +kernel
theorem dX11_most_36 : decode cX11_most 36 = .ok (.invokevirtual 415, 3) := by decide +kernel
theorem dX11_most_39 : decode cX11_most 39 = .ok (.istore_n 2, 1) := by decide +kernel
theorem dX11_most_40 : decode cX11_most 40 = .ok (.iload_n 1, 1) := by decide +kernel
theorem dX11_most_41 : decode cX11_most 41 = .ok (.ifCond .ne 10, 3) := by decide +kernel
theorem dX11_most_44 : decode cX11_most 44 = .ok (.iload_n 2, 1) := by decide +kernel
theorem dX11_most_45 : decode cX11_most 45 = .ok (.invokestatic 328, 3) := by decide +kernel
theorem dX11_most_48 : decode cX11_most 48 = .ok (.goto 4, 3) := by decide +kernel
theorem dX11_most_51 : decode cX11_most 51 = .ok (.iload_n 2, 1) := by decide +kernel
theorem dX11_most_52 : decode cX11_most 52 = .ok (.ireturn, 1) := by decide +kernel
theorem dX11_worth_0 : decode cX11_worth 0 = .ok (.iload_n 1, 1) := by decide +kernel
theorem dX11_worth_1 : decode cX11_worth 1 = .ok (.i2l, 1) := by decide +kernel
theorem dX11_worth_2 : decode cX11_worth 2 = .ok (.lconst 0, 1) := by decide +kernel
theorem dX11_worth_3 : decode cX11_worth 3 = .ok (.aload_n 0, 1) := by decide +kernel
theorem dX11_worth_4 : decode cX11_worth 4 = .ok (.getfield 240, 3) := by decide +kernel
theorem dX11_worth_7 : decode cX11_worth 7 = .ok (.iconst 1, 1) := by decide +kernel
theorem dX11_worth_8 : decode cX11_worth 8 = .ok (.isub, 1) := by decide +kernel
theorem dX11_worth_9 : decode cX11_worth 9 = .ok (.i2l, 1) := by decide +kernel
theorem dX11_worth_10 : decode cX11_worth 10 = .ok (.invokestatic 144, 3) := by decide +kernel
theorem dX11_worth_13 : decode cX11_worth 13 = .ok (.ifCond .ne 7, 3) := by decide +kernel
theorem dX11_worth_16 : decode cX11_worth 16 = .ok (.sipush (-1001), 3) := by decide +kernel
theorem dX11_worth_19 : decode cX11_worth 19 = .ok (.ireturn, 1) := by decide +kernel
theorem dX11_worth_20 : decode cX11_worth 20 = .ok (.aload_n 0, 1) := by decide +kernel
theorem dX11_worth_21 : decode cX11_worth 21 = .ok (.getfield 240, 3) := by decide +kernel
theorem dX11_worth_24 : decode cX11_worth 24 = .ok (.bipush 8, 2) := by decide +kernel
theorem dX11_worth_26 : decode cX11_worth 26 = .ok (.if_icmp .le 7, 3) := by decide +kernel
theorem dX11_worth_29 : decode cX11_worth 29 = .ok (.sipush (-1003), 3) := by decide +kernel
theorem dX11_worth_32 : decode cX11_worth 32 = .ok (.ireturn, 1) := by decide +kernel
theorem dX11_worth_33 : decode cX11_worth 33 = .ok (.iconst 1, 1) := by decide +kernel
theorem dX11_worth_34 : decode cX11_worth 34 = .ok (.aload_n 0, 1) := by decide +kernel
theorem dX11_worth_35 : decode cX11_worth 35 = .ok (.getfield 240, 3) := by decide +kernel
theorem dX11_worth_38 : decode cX11_worth 38 = .ok (.ishl, 1) := by decide +kernel
theorem dX11_worth_39 : decode cX11_worth 39 = .ok (.iconst 1, 1) := by decide +kernel
theorem dX11_worth_40 : decode cX11_worth 40 = .ok (.isub, 1) := by decide +kernel
theorem dX11_worth_41 : decode cX11_worth 41 = .ok (.istore_n 2, 1) := by decide +kernel
theorem dX11_worth_42 : decode cX11_worth 42 = .ok (.aload_n 0, 1) := by decide +kernel
theorem dX11_worth_43 : decode cX11_worth 43 = .ok (.iload_n 2, 1) := by decide +kernel
theorem dX11_worth_44 : decode cX11_worth 44 = .ok (.invokevirtual 415, 3) := by decide +kernel
theorem dX11_worth_47 : decode cX11_worth 47 = .ok (.invokestatic 328, 3) := by decide +kernel
theorem dX11_worth_50 : decode cX11_worth 50 = .ok (.aload_n 0, 1) := by decide +kernel
theorem dX11_worth_51 : decode cX11_worth 51 = .ok (.iload_n 2, 1) := by decide +kernel
theorem dX11_worth_52 : decode cX11_worth 52 = .ok (.iconst 1, 1) := by decide +kernel
theorem dX11_worth_53 : decode cX11_worth 53 = .ok (.iload_n 1, 1) := by decide +kernel
theorem dX11_worth_54 : decode cX11_worth 54 = .ok (.ishl, 1) := by decide +kernel
theorem dX11_worth_55 : decode cX11_worth 55 = .ok (.iconst (-1), 1) := by decide +kernel
theorem dX11_worth_56 : decode cX11_worth 56 = .ok (.ixor, 1) := by decide +kernel
theorem dX11_worth_57 : decode cX11_worth 57 = .ok (.iand, 1) := by decide +kernel
theorem dX11_worth_58 : decode cX11_worth 58 = .ok (.invokevirtual 415, 3) := by decide +kernel
theorem dX11_worth_61 : decode cX11_worth 61 = .ok (.invokestatic 328, 3) := by decide +kernel
theorem dX11_worth_64 : decode cX11_worth 64 = .ok (.isub, 1) := by decide +kernel
theorem dX11_worth_65 : decode cX11_worth 65 = .ok (.ireturn, 1) := by decide +kernel
theorem dX11_log_0 : decode cX11_log 0 = .ok (.aload_n 0, 1) := by decide +kernel
theorem dX11_log_1 : decode cX11_log 1 = .ok (.iload_n 1, 1) := by decide +kernel
theorem dX11_log_2 : decode cX11_log 2 = .ok (.invokevirtual 255, 3) := by decide +kernel
theorem dX11_log_5 : decode cX11_log 5 = .ok (.ifCond .eq 11, 3) := by decide +kernel
theorem dX11_log_8 : decode cX11_log 8 = .ok (.aload_n 0, 1) := by decide +kernel
theorem dX11_log_9 : decode cX11_log 9 = .ok (.iload_n 2, 1) := by decide +kernel
theorem dX11_log_10 : decode cX11_log 10 = .ok (.invokevirtual 255, 3) := by decide +kernel
theorem dX11_log_13 : decode cX11_log 13 = .ok (.ifCond .ne 7, 3) := by decide +kernel
theorem dX11_log_16 : decode cX11_log 16 = .ok (.sipush (-1001), 3) := by decide +kernel
theorem dX11_log_19 : decode cX11_log 19 = .ok (.ireturn, 1) := by decide +kernel
theorem dX11_log_20 : decode cX11_log 20 = .ok (.aload_n 0, 1) := by decide +kernel
theorem dX11_log_21 : decode cX11_log 21 = .ok (.getfield 249, 3) := by decide +kernel
theorem dX11_log_24 : decode cX11_log 24 = .ok (.bipush 40, 2) := by decide +kernel
theorem dX11_log_26 : decode cX11_log 26 = .ok (.if_icmp .ne 7, 3) := by decide +kernel
theorem dX11_log_29 : decode cX11_log 29 = .ok (.sipush (-1004), 3) := by decide +kernel
theorem dX11_log_32 : decode cX11_log 32 = .ok (.ireturn, 1) := by decide +kernel
theorem dX11_log_33 : decode cX11_log 33 = .ok (.aload_n 0, 1) := by decide +kernel
theorem dX11_log_34 : decode cX11_log 34 = .ok (.getfield 111, 3) := by decide +kernel
theorem dX11_log_37 : decode cX11_log 37 = .ok (.aload_n 0, 1) := by decide +kernel
theorem dX11_log_38 : decode cX11_log 38 = .ok (.getfield 249, 3) := by decide +kernel
theorem dX11_log_41 : decode cX11_log 41 = .ok (.iload_n 1, 1) := by decide +kernel
theorem dX11_log_42 : decode cX11_log 42 = .ok (.iastore, 1) := by decide +kernel
theorem dX11_log_43 : decode cX11_log 43 = .ok (.aload_n 0, 1) := by decide +kernel
theorem dX11_log_44 : decode cX11_log 44 = .ok (.getfield 114, 3) := by decide +kernel
theorem dX11_log_47 : decode cX11_log 47 = .ok (.aload_n 0, 1) := by decide +kernel
theorem dX11_log_48 : decode cX11_log 48 = .ok (.getfield 249, 3) := by decide +kernel
theorem dX11_log_51 : decode cX11_log 51 = .ok (.iload_n 2, 1) := by decide +kernel
theorem dX11_log_52 : decode cX11_log 52 = .ok (.iastore, 1) := by decide +kernel
theorem dX11_log_53 : decode cX11_log 53 = .ok (.aload_n 0, 1) := by decide +kernel
theorem dX11_log_54 : decode cX11_log 54 = .ok (.dup, 1) := by decide +kernel
theorem dX11_log_55 : decode cX11_log 55 = .ok (.getfield 249, 3) := by decide +kernel
theorem dX11_log_58 : decode cX11_log 58 = .ok (.iconst 1, 1) := by decide +kernel
theorem dX11_log_59 : decode cX11_log 59 = .ok (.iadd, 1) := by decide +kernel
theorem dX11_log_60 : decode cX11_log 60 = .ok (.putfield 249, 3) := by decide +kernel
theorem dX11_log_63 : decode cX11_log 63 = .ok (.aload_n 0, 1) := by decide +kernel
theorem dX11_log_64 : decode cX11_log 64 = .ok (.getfield 249, 3) := by decide +kernel
theorem dX11_log_67 : decode cX11_log 67 = .ok (.ireturn, 1) := by decide +kernel
theorem dX11_clear_0 : decode cX11_clear 0 = .ok (.aload_n 0, 1) := by decide +kernel
theorem dX11_clear_1 : decode cX11_clear 1 = .ok (.getfield 249, 3) := by decide +kernel
theorem dX11_clear_4 : decode cX11_clear 4 = .ok (.aload_n 0, 1) := by decide +kernel
theorem dX11_clear_5 : decode cX11_clear 5 = .ok (.getfield 252, 3) := by decide +kernel
theorem dX11_clear_8 : decode cX11_clear 8 = .ok (.iadd, 1) := by decide +kernel
theorem dX11_clear_9 : decode cX11_clear 9 = .ok (.istore_n 1, 1) := by decide +kernel
theorem dX11_clear_10 : decode cX11_clear 10 = .ok (.aload_n 0, 1) := by decide +kernel
theorem dX11_clear_11 : decode cX11_clear 11 = .ok (.iconst 0, 1) := by decide +kernel
theorem dX11_clear_12 : decode cX11_clear 12 = .ok (.putfield 249, 3) := by decide +kernel
theorem dX11_clear_15 : decode cX11_clear 15 = .ok (.aload_n 0, 1) := by decide +kernel
theorem dX11_clear_16 : decode cX11_clear 16 = .ok (.iconst 0, 1) := by decide +kernel
theorem dX11_clear_17 : decode cX11_clear 17 = .ok (.putfield 252, 3) := by decide +kernel
theorem dX11_clear_20 : decode cX11_clear 20 = .ok (.iload_n 1, 1) := by decide +kernel
theorem dX11_clear_21 : decode cX11_clear 21 = .ok (.ireturn, 1) := by decide +kernel
theorem dX11_judge_0 : decode cX11_judge 0 = .ok (.iload_n 1, 1) := by decide +kernel
theorem dX11_judge_1 : decode cX11_judge 1 = .ok (.i2l, 1) := by decide +kernel
theorem dX11_judge_2 : decode cX11_judge 2 = .ok (.lconst 0, 1) := by decide +kernel
theorem dX11_judge_3 : decode cX11_judge 3 = .ok (.ldc2_w 397, 3) := by decide +kernel
theorem dX11_judge_6 : decode cX11_judge 6 = .ok (.invokestatic 144, 3) := by decide +kernel
theorem dX11_judge_9 : decode cX11_judge 9 = .ok (.ifCond .ne 7, 3) := by decide +kernel
theorem dX11_judge_12 : decode cX11_judge 12 = .ok (.sipush (-1002), 3) := by decide +kernel
theorem dX11_judge_15 : decode cX11_judge 15 = .ok (.ireturn, 1) := by decide +kernel
theorem dX11_judge_16 : decode cX11_judge 16 = .ok (.aload_n 0, 1) := by decide +kernel
theorem dX11_judge_17 : decode cX11_judge 17 = .ok (.getfield 148, 3) := by decide +kernel
theorem dX11_judge_20 : decode cX11_judge 20 = .ok (.ifCond .ne 7, 3) := by decide +kernel
theorem dX11_judge_23 : decode cX11_judge 23 = .ok (.sipush (-1003), 3) := by decide +kernel
theorem dX11_judge_26 : decode cX11_judge 26 = .ok (.ireturn, 1) := by decide +kernel
theorem dX11_judge_27 : decode cX11_judge 27 = .ok (.aload_n 0, 1) := by decide +kernel
theorem dX11_judge_28 : decode cX11_judge 28 = .ok (.iconst 0, 1) := by decide +kernel
theorem dX11_judge_29 : decode cX11_judge 29 = .ok (.invokevirtual 246, 3) := by decide +kernel
theorem dX11_judge_32 : decode cX11_judge 32 = .ok (.istore_n 2, 1) := by decide +kernel
theorem dX11_judge_33 : decode cX11_judge 33 = .ok (.iconst (-1), 1) := by decide +kernel
theorem dX11_judge_34 : decode cX11_judge 34 = .ok (.istore_n 3, 1) := by decide +kernel
theorem dX11_judge_35 : decode cX11_judge 35 = .ok (.iconst 0, 1) := by decide +kernel
theorem dX11_judge_36 : decode cX11_judge 36 = .ok (.istore 4, 2) := by decide +kernel
theorem dX11_judge_38 : decode cX11_judge 38 = .ok (.iload 4, 2) := by decide +kernel
theorem dX11_judge_40 : decode cX11_judge 40 = .ok (.aload_n 0, 1) := by decide +kernel
theorem dX11_judge_41 : decode cX11_judge 41 = .ok (.getfield 249, 3) := by decide +kernel
theorem dX11_judge_44 : decode cX11_judge 44 = .ok (.if_icmp .ge 133, 3) := by decide +kernel
theorem dX11_judge_47 : decode cX11_judge 47 = .ok (.iload_n 3, 1) := by decide +kernel
theorem dX11_judge_48 : decode cX11_judge 48 = .ok (.ifCond .ge 129, 3) := by decide +kernel
theorem dX11_judge_51 : decode cX11_judge 51 = .ok (.iload_n 2, 1) := by decide +kernel
theorem dX11_judge_52 : decode cX11_judge 52 = .ok (.istore 5, 2) := by decide +kernel
theorem dX11_judge_54 : decode cX11_judge 54 = .ok (.aload_n 0, 1) := by decide +kernel
theorem dX11_judge_55 : decode cX11_judge 55 = .ok (.iload 5, 2) := by decide +kernel
theorem dX11_judge_57 : decode cX11_judge 57 = .ok (.invokevirtual 312, 3) := by decide +kernel
theorem dX11_judge_60 : decode cX11_judge 60 = .ok (.ifCond .ne 21, 3) := by decide +kernel
theorem dX11_judge_63 : decode cX11_judge 63 = .ok (.aload_n 0, 1) := by decide +kernel
theorem dX11_judge_64 : decode cX11_judge 64 = .ok (.iload 5, 2) := by decide +kernel
theorem dX11_judge_66 : decode cX11_judge 66 = .ok (.invokevirtual 315, 3) := by decide +kernel
theorem dX11_judge_69 : decode cX11_judge 69 = .ok (.ifCond .ne 12, 3) := by decide +kernel
theorem dX11_judge_72 : decode cX11_judge 72 = .ok (.aload_n 0, 1) := by decide +kernel
theorem dX11_judge_73 : decode cX11_judge 73 = .ok (.iload 5, 2) := by decide +kernel
theorem dX11_judge_75 : decode cX11_judge 75 = .ok (.iconst (-1), 1) := by decide +kernel
theorem dX11_judge_76 : decode cX11_judge 76 = .ok (.invokevirtual 337, 3) := by decide +kernel
theorem dX11_judge_79 : decode cX11_judge 79 = .ok (.istore 5, 2) := by decide +kernel
theorem dX11_judge_81 : decode cX11_judge 81 = .ok (.aload_n 0, 1) := by decide +kernel
theorem dX11_judge_82 : decode cX11_judge 82 = .ok (.iload 5, 2) := by decide +kernel
theorem dX11_judge_84 : decode cX11_judge 84 = .ok (.invokevirtual 312, 3) := by decide +kernel
theorem dX11_judge_87 : decode cX11_judge 87 = .ok (.ifCond .ne 46, 3) := by decide +kernel
theorem dX11_judge_90 : decode cX11_judge 90 = .ok (.iload 5, 2) := by decide +kernel
theorem dX11_judge_92 : decode cX11_judge 92 = .ok (.iload 5, 2) := by decide +kernel
theorem dX11_judge_94 : decode cX11_judge 94 = .ok (.invokestatic 277, 3) := by decide +kernel
theorem dX11_judge_97 : decode cX11_judge 97 = .ok (.invokestatic 291, 3) := by decide +kernel
theorem dX11_judge_100 : decode cX11_judge 100 = .ok (.aload_n 0, 1) := by decide +kernel
theorem dX11_judge_101 : decode cX11_judge 101 = .ok (.getfield 111, 3) := by decide +kernel
theorem dX11_judge_104 : decode cX11_judge 104 = .ok (.iload 4, 2) := by decide +kernel
theorem dX11_judge_106 : decode cX11_judge 106 = .ok (.iaload, 1) := by decide +kernel
theorem dX11_judge_107 : decode cX11_judge 107 = .ok (.if_icmp .ne 26, 3) := by decide +kernel
theorem dX11_judge_110 : decode cX11_judge 110 = .ok (.aload_n 0, 1) := by decide +kernel
theorem dX11_judge_111 : decode cX11_judge 111 = .ok (.iload 5, 2) := by decide +kernel
theorem dX11_judge_113 : decode cX11_judge 113 = .ok (.invokevirtual 315, 3) := by decide +kernel
theorem dX11_judge_116 : decode cX11_judge 116 = .ok (.aload_n 0, 1) := by decide +kernel
theorem dX11_judge_117 : decode cX11_judge 117 = .ok (.getfield 114, 3) := by decide +kernel
theorem dX11_judge_120 : decode cX11_judge 120 = .ok (.iload 4, 2) := by decide +kernel
theorem dX11_judge_122 : decode cX11_judge 122 = .ok (.iaload, 1) := by decide +kernel
theorem dX11_judge_123 : decode cX11_judge 123 = .ok (.invokestatic 287, 3) := by decide +kernel
theorem dX11_judge_126 : decode cX11_judge 126 = .ok (.ifCond .eq 7, 3) := by decide +kernel
theorem dX11_judge_129 : decode cX11_judge 129 = .ok (.iconst 1, 1) := by decide +kernel
theorem dX11_judge_130 : decode cX11_judge 130 = .ok (.goto 4, 3) := by decide +kernel
theorem dX11_judge_133 : decode cX11_judge 133 = .ok (.iconst 0, 1) := by decide +kernel
theorem dX11_judge_134 : decode cX11_judge 134 = .ok (.istore 6, 2) := by decide +kernel
theorem dX11_judge_136 : decode cX11_judge 136 = .ok (.iload 6, 2) := by decide +kernel
theorem dX11_judge_138 : decode cX11_judge 138 = .ok (.ifCond .eq 7, 3) := by decide +kernel
theorem dX11_judge_141 : decode cX11_judge 141 = .ok (.iconst (-1), 1) := by decide +kernel
theorem dX11_judge_142 : decode cX11_judge 142 = .ok (.goto 5, 3) := by decide +kernel
theorem dX11_judge_145 : decode cX11_judge 145 = .ok (.iload 4, 2) := by decide +kernel
theorem dX11_judge_147 : decode cX11_judge 147 = .ok (.istore_n 3, 1) := by decide +kernel
theorem dX11_judge_148 : decode cX11_judge 148 = .ok (.iload 6, 2) := by decide +kernel
theorem dX11_judge_150 : decode cX11_judge 150 = .ok (.ifCond .eq 19, 3) := by decide +kernel
theorem dX11_judge_153 : decode cX11_judge 153 = .ok (.aload_n 0, 1) := by decide +kernel
theorem dX11_judge_154 : decode cX11_judge 154 = .ok (.iload 5, 2) := by decide +kernel
theorem dX11_judge_156 : decode cX11_judge 156 = .ok (.aload_n 0, 1) := by decide +kernel
theorem dX11_judge_157 : decode cX11_judge 157 = .ok (.getfield 114, 3) := by decide +kernel
theorem dX11_judge_160 : decode cX11_judge 160 = .ok (.iload 4, 2) := by decide +kernel
theorem dX11_judge_162 : decode cX11_judge 162 = .ok (.iaload, 1) := by decide +kernel
theorem dX11_judge_163 : decode cX11_judge 163 = .ok (.invokevirtual 337, 3) := by decide +kernel
theorem dX11_judge_166 : decode cX11_judge 166 = .ok (.goto 4, 3) := by decide +kernel
theorem dX11_judge_169 : decode cX11_judge 169 = .ok (.iload_n 2, 1) := by decide +kernel
theorem dX11_judge_170 : decode cX11_judge 170 = .ok (.istore_n 2, 1) := by decide +kernel
theorem dX11_judge_171 : decode cX11_judge 171 = .ok (.iinc 4 1, 3) := by decide +kernel
theorem dX11_judge_174 : decode cX11_judge 174 = .ok (.goto (-136), 3) := by decide +kernel
theorem dX11_judge_177 : decode cX11_judge 177 = .ok (.iload_n 1, 1) := by decide +kernel
theorem dX11_judge_178 : decode cX11_judge 178 = .ok (.ifCond .ne 7, 3) := by decide +kernel
theorem dX11_judge_181 : decode cX11_judge 181 = .ok (.iload_n 3, 1) := by decide +kernel
theorem dX11_judge_182 : decode cX11_judge 182 = .ok (.goto 28, 3) := by decide +kernel
theorem dX11_judge_185 : decode cX11_judge 185 = .ok (.iload_n 1, 1) := by decide +kernel
theorem dX11_judge_186 : decode cX11_judge 186 = .ok (.iconst 1, 1) := by decide +kernel
theorem dX11_judge_187 : decode cX11_judge 187 = .ok (.if_icmp .ne 18, 3) := by decide +kernel
theorem dX11_judge_190 : decode cX11_judge 190 = .ok (.bipush 100, 2) := by decide +kernel
theorem dX11_judge_192 : decode cX11_judge 192 = .ok (.iload_n 2, 1) := by decide +kernel
theorem dX11_judge_193 : decode cX11_judge 193 = .ok (.invokestatic 271, 3) := by decide +kernel
theorem dX11_judge_196 : decode cX11_judge 196 = .ok (.imul, 1) := by decide +kernel
theorem dX11_judge_197 : decode cX11_judge 197 = .ok (.iload_n 2, 1) := by decide +kernel
theorem dX11_judge_198 : decode cX11_judge 198 = .ok (.invokestatic 274, 3) := by decide +kernel
theorem dX11_judge_201 : decode cX11_judge 201 = .ok (.iadd, 1) := by decide +kernel
theorem dX11_judge_202 : decode cX11_judge 202 = .ok (.goto 8, 3) := by decide +kernel
theorem dX11_judge_205 : decode cX11_judge 205 = .ok (.aload_n 0, 1) := by decide +kernel
theorem dX11_judge_206 : decode cX11_judge 206 = .ok (.iload_n 2, 1) := by decide +kernel
theorem dX11_judge_207 : decode cX11_judge 207 = .ok (.invokevirtual 312, 3) := by decide +kernel
theorem dX11_judge_210 : decode cX11_judge 210 = .ok (.ireturn, 1) := by decide +kernel
theorem dX11_seen_0 : decode cX11_seen 0 = .ok (.aload_n 0, 1) := by decide +kernel
theorem dX11_seen_1 : decode cX11_seen 1 = .ok (.iload_n 2, 1) := by decide +kernel
theorem dX11_seen_2 : decode cX11_seen 2 = .ok (.invokevirtual 255, 3) := by decide +kernel
theorem dX11_seen_5 : decode cX11_seen 5 = .ok (.ifCond .ne 7, 3) := by decide +kernel
theorem dX11_seen_8 : decode cX11_seen 8 = .ok (.sipush (-1001), 3) := by decide +kernel
theorem dX11_seen_11 : decode cX11_seen 11 = .ok (.ireturn, 1) := by decide +kernel
theorem dX11_seen_12 : decode cX11_seen 12 = .ok (.iload_n 1, 1) := by decide +kernel
theorem dX11_seen_13 : decode cX11_seen 13 = .ok (.i2l, 1) := by decide +kernel
theorem dX11_seen_14 : decode cX11_seen 14 = .ok (.lconst 0, 1) := by decide +kernel
theorem dX11_seen_15 : decode cX11_seen 15 = .ok (.ldc2_w 418, 3) := by decide +kernel
theorem dX11_seen_18 : decode cX11_seen 18 = .ok (.invokestatic 144, 3) := by decide +kernel
theorem dX11_seen_21 : decode cX11_seen 21 = .ok (.ifCond .ne 7, 3) := by decide +kernel
theorem dX11_seen_24 : decode cX11_seen 24 = .ok (.sipush (-1002), 3) := by decide +kernel
theorem dX11_seen_27 : decode cX11_seen 27 = .ok (.ireturn, 1) := by decide +kernel
theorem dX11_seen_28 : decode cX11_seen 28 = .ok (.aload_n 0, 1) := by decide +kernel
theorem dX11_seen_29 : decode cX11_seen 29 = .ok (.getfield 252, 3) := by decide +kernel
theorem dX11_seen_32 : decode cX11_seen 32 = .ok (.bipush 20, 2) := by decide +kernel
theorem dX11_seen_34 : decode cX11_seen 34 = .ok (.if_icmp .ne 7, 3) := by decide +kernel
theorem dX11_seen_37 : decode cX11_seen 37 = .ok (.sipush (-1004), 3) := by decide +kernel
theorem dX11_seen_40 : decode cX11_seen 40 = .ok (.ireturn, 1) := by decide +kernel
theorem dX11_seen_41 : decode cX11_seen 41 = .ok (.aload_n 0, 1) := by decide +kernel
theorem dX11_seen_42 : decode cX11_seen 42 = .ok (.getfield 117, 3) := by decide +kernel
theorem dX11_seen_45 : decode cX11_seen 45 = .ok (.aload_n 0, 1) := by decide +kernel
theorem dX11_seen_46 : decode cX11_seen 46 = .ok (.getfield 252, 3) := by decide +kernel
theorem dX11_seen_49 : decode cX11_seen 49 = .ok (.iload_n 1, 1) := by decide +kernel
theorem dX11_seen_50 : decode cX11_seen 50 = .ok (.iastore, 1) := by decide +kernel
theorem dX11_seen_51 : decode cX11_seen 51 = .ok (.aload_n 0, 1) := by decide +kernel
theorem dX11_seen_52 : decode cX11_seen 52 = .ok (.getfield 120, 3) := by decide +kernel
theorem dX11_seen_55 : decode cX11_seen 55 = .ok (.aload_n 0, 1) := by decide +kernel
theorem dX11_seen_56 : decode cX11_seen 56 = .ok (.getfield 252, 3) := by decide +kernel
theorem dX11_seen_59 : decode cX11_seen 59 = .ok (.iload_n 2, 1) := by decide +kernel
theorem dX11_seen_60 : decode cX11_seen 60 = .ok (.iastore, 1) := by decide +kernel
theorem dX11_seen_61 : decode cX11_seen 61 = .ok (.aload_n 0, 1) := by decide +kernel
theorem dX11_seen_62 : decode cX11_seen 62 = .ok (.getfield 123, 3) := by decide +kernel
theorem dX11_seen_65 : decode cX11_seen 65 = .ok (.aload_n 0, 1) := by decide +kernel
theorem dX11_seen_66 : decode cX11_seen 66 = .ok (.getfield 252, 3) := by decide +kernel
theorem dX11_seen_69 : decode cX11_seen 69 = .ok (.iload_n 3, 1) := by decide +kernel
theorem dX11_seen_70 : decode cX11_seen 70 = .ok (.bastore, 1) := by decide +kernel
theorem dX11_seen_71 : decode cX11_seen 71 = .ok (.aload_n 0, 1) := by decide +kernel
theorem dX11_seen_72 : decode cX11_seen 72 = .ok (.dup, 1) := by decide +kernel
theorem dX11_seen_73 : decode cX11_seen 73 = .ok (.getfield 252, 3) := by decide +kernel
theorem dX11_seen_76 : decode cX11_seen 76 = .ok (.iconst 1, 1) := by decide +kernel
theorem dX11_seen_77 : decode cX11_seen 77 = .ok (.iadd, 1) := by decide +kernel
theorem dX11_seen_78 : decode cX11_seen 78 = .ok (.putfield 252, 3) := by decide +kernel
theorem dX11_seen_81 : decode cX11_seen 81 = .ok (.aload_n 0, 1) := by decide +kernel
theorem dX11_seen_82 : decode cX11_seen 82 = .ok (.getfield 252, 3) := by decide +kernel
theorem dX11_seen_85 : decode cX11_seen 85 = .ok (.ireturn, 1) := by decide +kernel
theorem dX11_fits_0 : decode cX11_fits 0 = .ok (.iconst 1, 1) := by decide +kernel
theorem dX11_fits_1 : decode cX11_fits 1 = .ok (.istore_n 3, 1) := by decide +kernel
theorem dX11_fits_2 : decode cX11_fits 2 = .ok (.iconst 0, 1) := by decide +kernel
theorem dX11_fits_3 : decode cX11_fits 3 = .ok (.istore 4, 2) := by decide +kernel
theorem dX11_fits_5 : decode cX11_fits 5 = .ok (.iload 4, 2) := by decide +kernel
theorem dX11_fits_7 : decode cX11_fits 7 = .ok (.aload_n 0, 1) := by decide +kernel
theorem dX11_fits_8 : decode cX11_fits 8 = .ok (.getfield 252, 3) := by decide +kernel
theorem dX11_fits_11 : decode cX11_fits 11 = .ok (.if_icmp .ge 77, 3) := by decide +kernel
theorem dX11_fits_14 : decode cX11_fits 14 = .ok (.iload_n 1, 1) := by decide +kernel
theorem dX11_fits_15 : decode cX11_fits 15 = .ok (.invokestatic 271, 3) := by decide +kernel
theorem dX11_fits_18 : decode cX11_fits 18 = .ok (.aload_n 0, 1) := by decide +kernel
theorem dX11_fits_19 : decode cX11_fits 19 = .ok (.getfield 120, 3) := by decide +kernel
theorem dX11_fits_22 : decode cX11_fits 22 = .ok (.iload 4, 2) := by decide +kernel
theorem dX11_fits_24 : decode cX11_fits 24 = .ok (.iaload, 1) := by decide +kernel
theorem dX11_fits_25 : decode cX11_fits 25 = .ok (.if_icmp .eq 17, 3) := by decide +kernel
theorem dX11_fits_28 : decode cX11_fits 28 = .ok (.iload_n 1, 1) := by decide +kernel
theorem dX11_fits_29 : decode cX11_fits 29 = .ok (.invokestatic 274, 3) := by decide +kernel
theorem dX11_fits_32 : decode cX11_fits 32 = .ok (.aload_n 0, 1) := by decide +kernel
theorem dX11_fits_33 : decode cX11_fits 33 = .ok (.getfield 120, 3) := by decide +kernel
theorem dX11_fits_36 : decode cX11_fits 36 = .ok (.iload 4, 2) := by decide +kernel
theorem dX11_fits_38 : decode cX11_fits 38 = .ok (.iaload, 1) := by decide +kernel
theorem dX11_fits_39 : decode cX11_fits 39 = .ok (.if_icmp .ne 7, 3) := by decide +kernel
theorem dX11_fits_42 : decode cX11_fits 42 = .ok (.iconst 1, 1) := by decide +kernel
theorem dX11_fits_43 : decode cX11_fits 43 = .ok (.goto 4, 3) := by decide +kernel
theorem dX11_fits_46 : decode cX11_fits 46 = .ok (.iconst 0, 1) := by decide +kernel
theorem dX11_fits_47 : decode cX11_fits 47 = .ok (.istore 5, 2) := by decide +kernel
theorem dX11_fits_49 : decode cX11_fits 49 = .ok (.iload_n 3, 1) := by decide +kernel
theorem dX11_fits_50 : decode cX11_fits 50 = .ok (.ifCond .eq 30, 3) := by decide +kernel
theorem dX11_fits_53 : decode cX11_fits 53 = .ok (.aload_n 0, 1) := by decide +kernel
theorem dX11_fits_54 : decode cX11_fits 54 = .ok (.getfield 117, 3) := by decide +kernel
theorem dX11_fits_57 : decode cX11_fits 57 = .ok (.iload 4, 2) := by decide +kernel
theorem dX11_fits_59 : decode cX11_fits 59 = .ok (.iaload, 1) := by decide +kernel
theorem dX11_fits_60 : decode cX11_fits 60 = .ok (.iload_n 2, 1) := by decide +kernel
theorem dX11_fits_61 : decode cX11_fits 61 = .ok (.if_icmp .ne 15, 3) := by decide +kernel
theorem dX11_fits_64 : decode cX11_fits 64 = .ok (.iload 5, 2) := by decide +kernel
theorem dX11_fits_66 : decode cX11_fits 66 = .ok (.aload_n 0, 1) := by decide +kernel
theorem dX11_fits_67 : decode cX11_fits 67 = .ok (.getfield 123, 3) := by decide +kernel
theorem dX11_fits_70 : decode cX11_fits 70 = .ok (.iload 4, 2) := by decide +kernel
theorem dX11_fits_72 : decode cX11_fits 72 = .ok (.baload, 1) := by decide +kernel
theorem dX11_fits_73 : decode cX11_fits 73 = .ok (.if_icmp .ne 7, 3) := by decide +kernel
theorem dX11_fits_76 : decode cX11_fits 76 = .ok (.iconst 1, 1) := by decide +kernel
theorem dX11_fits_77 : decode cX11_fits 77 = .ok (.goto 4, 3) := by decide +kernel
theorem dX11_fits_80 : decode cX11_fits 80 = .ok (.iconst 0, 1) := by decide +kernel
theorem dX11_fits_81 : decode cX11_fits 81 = .ok (.istore_n 3, 1) := by decide +kernel
theorem dX11_fits_82 : decode cX11_fits 82 = .ok (.iinc 4 1, 3) := by decide +kernel
theorem dX11_fits_85 : decode cX11_fits 85 = .ok (.goto (-80), 3) := by decide +kernel
theorem dX11_fits_88 : decode cX11_fits 88 = .ok (.iload_n 3, 1) := by decide +kernel
theorem dX11_fits_89 : decode cX11_fits 89 = .ok (.ireturn, 1) := by decide +kernel
theorem dX11_layOn_0 : decode cX11_layOn 0 = .ok (.aload_n 0, 1) := by decide +kernel
theorem dX11_layOn_1 : decode cX11_layOn 1 = .ok (.getfield 132, 3) := by decide +kernel
theorem dX11_layOn_4 : decode cX11_layOn 4 = .ok (.iload_n 1, 1) := by decide +kernel
theorem dX11_layOn_5 : decode cX11_layOn 5 = .ok (.iaload, 1) := by decide +kernel
theorem dX11_layOn_6 : decode cX11_layOn 6 = .ok (.aload_n 0, 1) := by decide +kernel
theorem dX11_layOn_7 : decode cX11_layOn 7 = .ok (.getfield 420, 3) := by decide +kernel
theorem dX11_layOn_10 : decode cX11_layOn 10 = .ok (.if_icmp .eq 42, 3) := by decide +kernel
theorem dX11_layOn_13 : decode cX11_layOn 13 = .ok (.aload_n 0, 1) := by decide +kernel
theorem dX11_layOn_14 : decode cX11_layOn 14 = .ok (.iload_n 1, 1) := by decide +kernel
theorem dX11_layOn_15 : decode cX11_layOn 15 = .ok (.iload_n 2, 1) := by decide +kernel
theorem dX11_layOn_16 : decode cX11_layOn 16 = .ok (.invokevirtual 423, 3) := by decide +kernel
theorem dX11_layOn_19 : decode cX11_layOn 19 = .ok (.ifCond .eq 33, 3) := by decide +kernel
theorem dX11_layOn_22 : decode cX11_layOn 22 = .ok (.aload_n 0, 1) := by decide +kernel
theorem dX11_layOn_23 : decode cX11_layOn 23 = .ok (.getfield 132, 3) := by decide +kernel
theorem dX11_layOn_26 : decode cX11_layOn 26 = .ok (.iload_n 1, 1) := by decide +kernel
theorem dX11_layOn_27 : decode cX11_layOn 27 = .ok (.aload_n 0, 1) := by decide +kernel
theorem dX11_layOn_28 : decode cX11_layOn 28 = .ok (.getfield 420, 3) := by decide +kernel
theorem dX11_layOn_31 : decode cX11_layOn 31 = .ok (.iastore, 1) := by decide +kernel
theorem dX11_layOn_32 : decode cX11_layOn 32 = .ok (.aload_n 0, 1) := by decide +kernel
theorem dX11_layOn_33 : decode cX11_layOn 33 = .ok (.getfield 129, 3) := by decide +kernel
theorem dX11_layOn_36 : decode cX11_layOn 36 = .ok (.aload_n 0, 1) := by decide +kernel
theorem dX11_layOn_37 : decode cX11_layOn 37 = .ok (.getfield 426, 3) := by decide +kernel
theorem dX11_layOn_40 : decode cX11_layOn 40 = .ok (.iload_n 1, 1) := by decide +kernel
theorem dX11_layOn_41 : decode cX11_layOn 41 = .ok (.iastore, 1) := by decide +kernel
theorem dX11_layOn_42 : decode cX11_layOn 42 = .ok (.aload_n 0, 1) := by decide +kernel
theorem dX11_layOn_43 : decode cX11_layOn 43 = .ok (.dup, 1) := by decide +kernel
theorem dX11_layOn_44 : decode cX11_layOn 44 = .ok (.getfield 426, 3) := by decide +kernel
theorem dX11_layOn_47 : decode cX11_layOn 47 = .ok (.iconst 1, 1) := by decide +kernel
theorem dX11_layOn_48 : decode cX11_layOn 48 = .ok (.iadd, 1) := by decide +kernel
theorem dX11_layOn_49 : decode cX11_layOn 49 = .ok (.putfield 426, 3) := by decide +kernel
theorem dX11_layOn_52 : decode cX11_layOn 52 = .ok (.return_, 1) := by decide +kernel
theorem dX11_nextLay_0 : decode cX11_nextLay 0 = .ok (.aload_n 0, 1) := by decide +kernel
theorem dX11_nextLay_1 : decode cX11_nextLay 1 = .ok (.dup, 1) := by decide +kernel
theorem dX11_nextLay_2 : decode cX11_nextLay 2 = .ok (.getfield 420, 3) := by decide +kernel
theorem dX11_nextLay_5 : decode cX11_nextLay 5 = .ok (.iconst 1, 1) := by decide +kernel
theorem dX11_nextLay_6 : decode cX11_nextLay 6 = .ok (.iadd, 1) := by decide +kernel
theorem dX11_nextLay_7 : decode cX11_nextLay 7 = .ok (.putfield 420, 3) := by decide +kernel
theorem dX11_nextLay_10 : decode cX11_nextLay 10 = .ok (.aload_n 0, 1) := by decide +kernel
theorem dX11_nextLay_11 : decode cX11_nextLay 11 = .ok (.iconst 0, 1) := by decide +kernel
theorem dX11_nextLay_12 : decode cX11_nextLay 12 = .ok (.putfield 426, 3) := by decide +kernel
theorem dX11_nextLay_15 : decode cX11_nextLay 15 = .ok (.iconst 0, 1) := by decide +kernel
theorem dX11_nextLay_16 : decode cX11_nextLay 16 = .ok (.istore_n 2, 1) := by decide +kernel
theorem dX11_nextLay_17 : decode cX11_nextLay 17 = .ok (.iload_n 2, 1) := by decide +kernel
theorem dX11_nextLay_18 : decode cX11_nextLay 18 = .ok (.aload_n 0, 1) := by decide +kernel
theorem dX11_nextLay_19 : decode cX11_nextLay 19 = .ok (.getfield 429, 3) := by decide +kernel
theorem dX11_nextLay_22 : decode cX11_nextLay 22 = .ok (.if_icmp .ge 96, 3) := by decide +kernel
theorem dX11_nextLay_25 : decode cX11_nextLay 25 = .ok (.aload_n 0, 1) := by decide +kernel
theorem dX11_nextLay_26 : decode cX11_nextLay 26 = .ok (.getfield 126, 3) := by decide +kernel
theorem dX11_nextLay_29 : decode cX11_nextLay 29 = .ok (.iload_n 2, 1) := by decide +kernel
theorem dX11_nextLay_30 : decode cX11_nextLay 30 = .ok (.iaload, 1) := by decide +kernel
theorem dX11_nextLay_31 : decode cX11_nextLay 31 = .ok (.istore_n 3, 1) := by decide +kernel
theorem dX11_nextLay_32 : decode cX11_nextLay 32 = .ok (.aload_n 0, 1) := by decide +kernel
theorem dX11_nextLay_33 : decode cX11_nextLay 33 = .ok (.iload_n 3, 1) := by decide +kernel
theorem dX11_nextLay_34 : decode cX11_nextLay 34 = .ok (.invokevirtual 315, 3) := by decide +kernel
theorem dX11_nextLay_37 : decode cX11_nextLay 37 = .ok (.istore 4, 2) := by decide +kernel
theorem dX11_nextLay_39 : decode cX11_nextLay 39 = .ok (.aload_n 0, 1) := by decide +kernel
theorem dX11_nextLay_40 : decode cX11_nextLay 40 = .ok (.iload_n 3, 1) := by decide +kernel
theorem dX11_nextLay_41 : decode cX11_nextLay 41 = .ok (.invokevirtual 312, 3) := by decide +kernel
theorem dX11_nextLay_44 : decode cX11_nextLay 44 = .ok (.ifCond .eq 12, 3) := by decide +kernel
theorem dX11_nextLay_47 : decode cX11_nextLay 47 = .ok (.aload_n 0, 1) := by decide +kernel
theorem dX11_nextLay_48 : decode cX11_nextLay 48 = .ok (.iload_n 3, 1) := by decide +kernel
theorem dX11_nextLay_49 : decode cX11_nextLay 49 = .ok (.iload_n 1, 1) := by decide +kernel
theorem dX11_nextLay_50 : decode cX11_nextLay 50 = .ok (.invokevirtual 432, 3) := by decide +kernel
theorem dX11_nextLay_53 : decode cX11_nextLay 53 = .ok (.goto 19, 3) := by decide +kernel
theorem dX11_nextLay_56 : decode cX11_nextLay 56 = .ok (.iload 4, 2) := by decide +kernel
theorem dX11_nextLay_58 : decode cX11_nextLay 58 = .ok (.ifCond .ne 14, 3) := by decide +kernel
theorem dX11_nextLay_61 : decode cX11_nextLay 61 = .ok (.aload_n 0, 1) := by decide +kernel
theorem dX11_nextLay_62 : decode cX11_nextLay 62 = .ok (.aload_n 0, 1) := by decide +kernel
theorem dX11_nextLay_63 : decode cX11_nextLay 63 = .ok (.iload_n 3, 1) := by decide +kernel
theorem dX11_nextLay_64 : decode cX11_nextLay 64 = .ok (.iconst (-1), 1) := by decide +kernel
theorem dX11_nextLay_65 : decode cX11_nextLay 65 = .ok (.invokevirtual 337, 3) := by decide +kernel
theorem dX11_nextLay_68 : decode cX11_nextLay 68 = .ok (.iload_n 1, 1) := by decide +kernel
theorem dX11_nextLay_69 : decode cX11_nextLay 69 = .ok (.invokevirtual 432, 3) := by decide +kernel
theorem dX11_nextLay_72 : decode cX11_nextLay 72 = .ok (.iconst 0, 1) := by decide +kernel
theorem dX11_nextLay_73 : decode cX11_nextLay 73 = .ok (.istore 5, 2) := by decide +kernel
theorem dX11_nextLay_75 : decode cX11_nextLay 75 = .ok (.iload 5, 2) := by decide +kernel
theorem dX11_nextLay_77 : decode cX11_nextLay 77 = .ok (.aload_n 0, 1) := by decide +kernel
theorem dX11_nextLay_78 : decode cX11_nextLay 78 = .ok (.getfield 141, 3) := by decide +kernel
theorem dX11_nextLay_81 : decode cX11_nextLay 81 = .ok (.if_icmp .ge 31, 3) := by decide +kernel
theorem dX11_nextLay_84 : decode cX11_nextLay 84 = .ok (.iload 4, 2) := by decide +kernel
theorem dX11_nextLay_86 : decode cX11_nextLay 86 = .ok (.iload 5, 2) := by decide +kernel
theorem dX11_nextLay_88 : decode cX11_nextLay 88 = .ok (.invokestatic 287, 3) := by decide +kernel
theorem dX11_nextLay_91 : decode cX11_nextLay 91 = .ok (.ifCond .eq 15, 3) := by decide +kernel
theorem dX11_nextLay_94 : decode cX11_nextLay 94 = .ok (.aload_n 0, 1) := by decide +kernel
theorem dX11_nextLay_95 : decode cX11_nextLay 95 = .ok (.aload_n 0, 1) := by decide +kernel
theorem dX11_nextLay_96 : decode cX11_nextLay 96 = .ok (.iload_n 3, 1) := by decide +kernel
theorem dX11_nextLay_97 : decode cX11_nextLay 97 = .ok (.iload 5, 2) := by decide +kernel
theorem dX11_nextLay_99 : decode cX11_nextLay 99 = .ok (.invokevirtual 337, 3) := by decide +kernel
theorem dX11_nextLay_102 : decode cX11_nextLay 102 = .ok (.iload_n 1, 1) := by decide +kernel
theorem dX11_nextLay_103 : decode cX11_nextLay 103 = .ok (.invokevirtual 432, 3) := by decide +kernel
theorem dX11_nextLay_106 : decode cX11_nextLay 106 = .ok (.iinc 5 1, 3) := by decide +kernel
theorem dX11_nextLay_109 : decode cX11_nextLay 109 = .ok (.goto (-34), 3) := by decide +kernel
theorem dX11_nextLay_112 : decode cX11_nextLay 112 = .ok (.iinc 2 1, 3) := by decide +kernel
theorem dX11_nextLay_115 : decode cX11_nextLay 115 = .ok (.goto (-98), 3) := by decide +kernel
theorem dX11_nextLay_118 : decode cX11_nextLay 118 = .ok (.aload_n 0, 1) := by decide +kernel
theorem dX11_nextLay_119 : decode cX11_nextLay 119 = .ok (.aload_n 0, 1) := by decide +kernel
theorem dX11_nextLay_120 : decode cX11_nextLay 120 = .ok (.getfield 426, 3) := by decide +kernel
theorem dX11_nextLay_123 : decode cX11_nextLay 123 = .ok (.putfield 429, 3) := by decide +kernel
theorem dX11_nextLay_126 : decode cX11_nextLay 126 = .ok (.iconst 0, 1) := by decide +kernel
theorem dX11_nextLay_127 : decode cX11_nextLay 127 = .ok (.istore_n 2, 1) := by decide +kernel
theorem dX11_nextLay_128 : decode cX11_nextLay 128 = .ok (.iload_n 2, 1) := by decide +kernel
theorem dX11_nextLay_129 : decode cX11_nextLay 129 = .ok (.aload_n 0, 1) := by decide +kernel
theorem dX11_nextLay_130 : decode cX11_nextLay 130 = .ok (.getfield 429, 3) := by decide +kernel
theorem dX11_nextLay_133 : decode cX11_nextLay 133 = .ok (.if_icmp .ge 21, 3) := by decide +kernel
theorem dX11_nextLay_136 : decode cX11_nextLay 136 = .ok (.aload_n 0, 1) := by decide +kernel
theorem dX11_nextLay_137 : decode cX11_nextLay 137 = .ok (.getfield 126, 3) := by decide +kernel
theorem dX11_nextLay_140 : decode cX11_nextLay 140 = .ok (.iload_n 2, 1) := by decide +kernel
theorem dX11_nextLay_141 : decode cX11_nextLay 141 = .ok (.aload_n 0, 1) := by decide +kernel
theorem dX11_nextLay_142 : decode cX11_nextLay 142 = .ok (.getfield 129, 3) := by decide +kernel
theorem dX11_nextLay_145 : decode cX11_nextLay 145 = .ok (.iload_n 2, 1) := by decide +kernel
theorem dX11_nextLay_146 : decode cX11_nextLay 146 = .ok (.iaload, 1) := by decide +kernel
theorem dX11_nextLay_147 : decode cX11_nextLay 147 = .ok (.iastore, 1) := by decide +kernel
theorem dX11_nextLay_148 : decode cX11_nextLay 148 = .ok (.iinc 2 1, 3) := by decide +kernel
theorem dX11_nextLay_151 : decode cX11_nextLay 151 = .ok (.goto (-23), 3) := by decide +kernel
theorem dX11_nextLay_154 : decode cX11_nextLay 154 = .ok (.return_, 1) := by decide +kernel
theorem dX11_have_0 : decode cX11_have 0 = .ok (.iload_n 1, 1) := by decide +kernel
theorem dX11_have_1 : decode cX11_have 1 = .ok (.i2l, 1) := by decide +kernel
theorem dX11_have_2 : decode cX11_have 2 = .ok (.lconst 0, 1) := by decide +kernel
theorem dX11_have_3 : decode cX11_have 3 = .ok (.ldc2_w 418, 3) := by decide +kernel
theorem dX11_have_6 : decode cX11_have 6 = .ok (.invokestatic 144, 3) := by decide +kernel
theorem dX11_have_9 : decode cX11_have 9 = .ok (.ifCond .ne 7, 3) := by decide +kernel
theorem dX11_have_12 : decode cX11_have 12 = .ok (.sipush (-1002), 3) := by decide +kernel
theorem dX11_have_15 : decode cX11_have 15 = .ok (.ireturn, 1) := by decide +kernel
theorem dX11_have_16 : decode cX11_have 16 = .ok (.aload_n 0, 1) := by decide +kernel
theorem dX11_have_17 : decode cX11_have 17 = .ok (.getfield 148, 3) := by decide +kernel
theorem dX11_have_20 : decode cX11_have 20 = .ok (.ifCond .ne 7, 3) := by decide +kernel
theorem dX11_have_23 : decode cX11_have 23 = .ok (.sipush (-1003), 3) := by decide +kernel
theorem dX11_have_26 : decode cX11_have 26 = .ok (.ireturn, 1) := by decide +kernel
theorem dX11_have_27 : decode cX11_have 27 = .ok (.aload_n 0, 1) := by decide +kernel
theorem dX11_have_28 : decode cX11_have 28 = .ok (.getfield 126, 3) := by decide +kernel
theorem dX11_have_31 : decode cX11_have 31 = .ok (.iconst 0, 1) := by decide +kernel
theorem dX11_have_32 : decode cX11_have 32 = .ok (.aload_n 0, 1) := by decide +kernel
theorem dX11_have_33 : decode cX11_have 33 = .ok (.iconst 0, 1) := by decide +kernel
theorem dX11_have_34 : decode cX11_have 34 = .ok (.invokevirtual 246, 3) := by decide +kernel
theorem dX11_have_37 : decode cX11_have 37 = .ok (.iastore, 1) := by decide +kernel
theorem dX11_have_38 : decode cX11_have 38 = .ok (.aload_n 0, 1) := by decide +kernel
theorem dX11_have_39 : decode cX11_have 39 = .ok (.aload_n 0, 1) := by decide +kernel
theorem dX11_have_40 : decode cX11_have 40 = .ok (.aload_n 0, 1) := by decide +kernel
theorem dX11_have_41 : decode cX11_have 41 = .ok (.getfield 126, 3) := by decide +kernel
theorem dX11_have_44 : decode cX11_have 44 = .ok (.iconst 0, 1) := by decide +kernel
theorem dX11_have_45 : decode cX11_have 45 = .ok (.iaload, 1) := by decide +kernel
theorem dX11_have_46 : decode cX11_have 46 = .ok (.iconst 0, 1) := by decide +kernel
theorem dX11_have_47 : decode cX11_have 47 = .ok (.invokevirtual 423, 3) := by decide +kernel
theorem dX11_have_50 : decode cX11_have 50 = .ok (.ifCond .eq 7, 3) := by decide +kernel
theorem dX11_have_53 : decode cX11_have 53 = .ok (.iconst 1, 1) := by decide +kernel
theorem dX11_have_54 : decode cX11_have 54 = .ok (.goto 4, 3) := by decide +kernel
theorem dX11_have_57 : decode cX11_have 57 = .ok (.iconst 0, 1) := by decide +kernel
theorem dX11_have_58 : decode cX11_have 58 = .ok (.putfield 429, 3) := by decide +kernel
theorem dX11_have_61 : decode cX11_have 61 = .ok (.iconst 1, 1) := by decide +kernel
theorem dX11_have_62 : decode cX11_have 62 = .ok (.istore_n 2, 1) := by decide +kernel
theorem dX11_have_63 : decode cX11_have 63 = .ok (.iload_n 2, 1) := by decide +kernel
theorem dX11_have_64 : decode cX11_have 64 = .ok (.iload_n 1, 1) := by decide +kernel
theorem dX11_have_65 : decode cX11_have 65 = .ok (.if_icmp .gt 14, 3) := by decide +kernel
theorem dX11_have_68 : decode cX11_have 68 = .ok (.aload_n 0, 1) := by decide +kernel
theorem dX11_have_69 : decode cX11_have 69 = .ok (.iload_n 2, 1) := by decide +kernel
theorem dX11_have_70 : decode cX11_have 70 = .ok (.invokevirtual 435, 3) := by decide +kernel
theorem dX11_have_73 : decode cX11_have 73 = .ok (.iinc 2 1, 3) := by decide +kernel
theorem dX11_have_76 : decode cX11_have 76 = .ok (.goto (-13), 3) := by decide +kernel
theorem dX11_have_79 : decode cX11_have 79 = .ok (.iconst 0, 1) := by decide +kernel
theorem dX11_have_80 : decode cX11_have 80 = .ok (.istore_n 2, 1) := by decide +kernel
theorem dX11_have_81 : decode cX11_have 81 = .ok (.iconst 0, 1) := by decide +kernel
theorem dX11_have_82 : decode cX11_have 82 = .ok (.istore_n 3, 1) := by decide +kernel
theorem dX11_have_83 : decode cX11_have 83 = .ok (.iload_n 3, 1) := by decide +kernel
theorem dX11_have_84 : decode cX11_have 84 = .ok (.aload_n 0, 1) := by decide +kernel
theorem dX11_have_85 : decode cX11_have 85 = .ok (.getfield 429, 3) := by decide +kernel
theorem dX11_have_88 : decode cX11_have 88 = .ok (.if_icmp .ge 35, 3) := by decide +kernel
theorem dX11_have_91 : decode cX11_have 91 = .ok (.iload_n 2, 1) := by decide +kernel
theorem dX11_have_92 : decode cX11_have 92 = .ok (.iconst 1, 1) := by decide +kernel
theorem dX11_have_93 : decode cX11_have 93 = .ok (.aload_n 0, 1) := by decide +kernel
theorem dX11_have_94 : decode cX11_have 94 = .ok (.getfield 126, 3) := by decide +kernel
theorem dX11_have_97 : decode cX11_have 97 = .ok (.iload_n 3, 1) := by decide +kernel
theorem dX11_have_98 : decode cX11_have 98 = .ok (.iaload, 1) := by decide +kernel
theorem dX11_have_99 : decode cX11_have 99 = .ok (.invokestatic 271, 3) := by decide +kernel
theorem dX11_have_102 : decode cX11_have 102 = .ok (.ishl, 1) := by decide +kernel
theorem dX11_have_103 : decode cX11_have 103 = .ok (.iconst 1, 1) := by decide +kernel
theorem dX11_have_104 : decode cX11_have 104 = .ok (.aload_n 0, 1) := by decide +kernel
theorem dX11_have_105 : decode cX11_have 105 = .ok (.getfield 126, 3) := by decide +kernel
theorem dX11_have_108 : decode cX11_have 108 = .ok (.iload_n 3, 1) := by decide +kernel
theorem dX11_have_109 : decode cX11_have 109 = .ok (.iaload, 1) := by decide +kernel
theorem dX11_have_110 : decode cX11_have 110 = .ok (.invokestatic 274, 3) := by decide +kernel
theorem dX11_have_113 : decode cX11_have 113 = .ok (.ishl, 1) := by decide +kernel
theorem dX11_have_114 : decode cX11_have 114 = .ok (.ior, 1) := by decide +kernel
theorem dX11_have_115 : decode cX11_have 115 = .ok (.ior, 1) := by decide +kernel
theorem dX11_have_116 : decode cX11_have 116 = .ok (.istore_n 2, 1) := by decide +kernel
theorem dX11_have_117 : decode cX11_have 117 = .ok (.iinc 3 1, 3) := by decide +kernel
theorem dX11_have_120 : decode cX11_have 120 = .ok (.goto (-37), 3) := by decide +kernel
theorem dX11_have_123 : decode cX11_have 123 = .ok (.iload_n 2, 1) := by decide +kernel
theorem dX11_have_124 : decode cX11_have 124 = .ok (.ireturn, 1) := by decide +kernel
theorem dX11_seed_0 : decode cX11_seed 0 = .ok (.iload_n 1, 1) := by decide +kernel
theorem dX11_seed_1 : decode cX11_seed 1 = .ok (.ifCond .ge 7, 3) := by decide +kernel
theorem dX11_seed_4 : decode cX11_seed 4 = .ok (.sipush (-1002), 3) := by decide +kernel
theorem dX11_seed_7 : decode cX11_seed 7 = .ok (.ireturn, 1) := by decide +kernel
theorem dX11_seed_8 : decode cX11_seed 8 = .ok (.aload_n 0, 1) := by decide +kernel
theorem dX11_seed_9 : decode cX11_seed 9 = .ok (.getfield 318, 3) := by decide +kernel
theorem dX11_seed_12 : decode cX11_seed 12 = .ok (.istore_n 2, 1) := by decide +kernel
theorem dX11_seed_13 : decode cX11_seed 13 = .ok (.aload_n 0, 1) := by decide +kernel
theorem dX11_seed_14 : decode cX11_seed 14 = .ok (.iload_n 1, 1) := by decide +kernel
theorem dX11_seed_15 : decode cX11_seed 15 = .ok (.putfield 318, 3) := by decide +kernel
theorem dX11_seed_18 : decode cX11_seed 18 = .ok (.iload_n 2, 1) := by decide +kernel
theorem dX11_seed_19 : decode cX11_seed 19 = .ok (.ireturn, 1) := by decide +kernel
theorem dX11_keep_0 : decode cX11_keep 0 = .ok (.iload_n 1, 1) := by decide +kernel
theorem dX11_keep_1 : decode cX11_keep 1 = .ok (.i2l, 1) := by decide +kernel
theorem dX11_keep_2 : decode cX11_keep 2 = .ok (.lconst 0, 1) := by decide +kernel
theorem dX11_keep_3 : decode cX11_keep 3 = .ok (.lconst 1, 1) := by decide +kernel
theorem dX11_keep_4 : decode cX11_keep 4 = .ok (.invokestatic 144, 3) := by decide +kernel
theorem dX11_keep_7 : decode cX11_keep 7 = .ok (.ifCond .ne 7, 3) := by decide +kernel
theorem dX11_keep_10 : decode cX11_keep 10 = .ok (.sipush (-1001), 3) := by decide +kernel
theorem dX11_keep_13 : decode cX11_keep 13 = .ok (.ireturn, 1) := by decide +kernel
theorem dX11_keep_14 : decode cX11_keep 14 = .ok (.sipush 140, 3) := by decide +kernel
theorem dX11_keep_17 : decode cX11_keep 17 = .ok (.iload_n 1, 1) := by decide +kernel
theorem dX11_keep_18 : decode cX11_keep 18 = .ok (.imul, 1) := by decide +kernel
theorem dX11_keep_19 : decode cX11_keep 19 = .ok (.istore_n 2, 1) := by decide +kernel
theorem dX11_keep_20 : decode cX11_keep 20 = .ok (.iconst 0, 1) := by decide +kernel
theorem dX11_keep_21 : decode cX11_keep 21 = .ok (.istore_n 3, 1) := by decide +kernel
theorem dX11_keep_22 : decode cX11_keep 22 = .ok (.iload_n 3, 1) := by decide +kernel
theorem dX11_keep_23 : decode cX11_keep 23 = .ok (.iconst 4, 1) := by decide +kernel
theorem dX11_keep_24 : decode cX11_keep 24 = .ok (.if_icmp .ge 39, 3) := by decide +kernel
theorem dX11_keep_27 : decode cX11_keep 27 = .ok (.aload_n 0, 1) := by decide +kernel
theorem dX11_keep_28 : decode cX11_keep 28 = .ok (.getfield 135, 3) := by decide +kernel
theorem dX11_keep_31 : decode cX11_keep 31 = .ok (.iload_n 2, 1) := by decide +kernel
theorem dX11_keep_32 : decode cX11_keep 32 = .ok (.iload_n 3, 1) := by decide +kernel
theorem dX11_keep_33 : decode cX11_keep 33 = .ok (.iadd, 1) := by decide +kernel
theorem dX11_keep_34 : decode cX11_keep 34 = .ok (.aload_n 0, 1) := by decide +kernel
theorem dX11_keep_35 : decode cX11_keep 35 = .ok (.getfield 31, 3) := by decide +kernel
theorem dX11_keep_38 : decode cX11_keep 38 = .ok (.iload_n 3, 1) := by decide +kernel
theorem dX11_keep_39 : decode cX11_keep 39 = .ok (.iaload, 1) := by decide +kernel
theorem dX11_keep_40 : decode cX11_keep 40 = .ok (.iastore, 1) := by decide +kernel
theorem dX11_keep_41 : decode cX11_keep 41 = .ok (.aload_n 0, 1) := by decide +kernel
theorem dX11_keep_42 : decode cX11_keep 42 = .ok (.getfield 135, 3) := by decide +kernel
theorem dX11_keep_45 : decode cX11_keep 45 = .ok (.iload_n 2, 1) := by decide +kernel
theorem dX11_keep_46 : decode cX11_keep 46 = .ok (.iconst 4, 1) := by decide +kernel
theorem dX11_keep_47 : decode cX11_keep 47 = .ok (.iadd, 1) := by decide +kernel
theorem dX11_keep_48 : decode cX11_keep 48 = .ok (.iload_n 3, 1) := by decide +kernel
theorem dX11_keep_49 : decode cX11_keep 49 = .ok (.iadd, 1) := by decide +kernel
theorem dX11_keep_50 : decode cX11_keep 50 = .ok (.aload_n 0, 1) := by decide +kernel
theorem dX11_keep_51 : decode cX11_keep 51 = .ok (.getfield 34, 3) := by decide +kernel
theorem dX11_keep_54 : decode cX11_keep 54 = .ok (.iload_n 3, 1) := by decide +kernel
theorem dX11_keep_55 : decode cX11_keep 55 = .ok (.iaload, 1) := by decide +kernel
theorem dX11_keep_56 : decode cX11_keep 56 = .ok (.iastore, 1) := by decide +kernel
theorem dX11_keep_57 : decode cX11_keep 57 = .ok (.iinc 3 1, 3) := by decide +kernel
theorem dX11_keep_60 : decode cX11_keep 60 = .ok (.goto (-38), 3) := by decide +kernel
theorem dX11_keep_63 : decode cX11_keep 63 = .ok (.aload_n 0, 1) := by decide +kernel
theorem dX11_keep_64 : decode cX11_keep 64 = .ok (.getfield 135, 3) := by decide +kernel
theorem dX11_keep_67 : decode cX11_keep 67 = .ok (.iload_n 2, 1) := by decide +kernel
theorem dX11_keep_68 : decode cX11_keep 68 = .ok (.bipush 8, 2) := by decide +kernel
theorem dX11_keep_70 : decode cX11_keep 70 = .ok (.iadd, 1) := by decide +kernel
theorem dX11_keep_71 : decode cX11_keep 71 = .ok (.aload_n 0, 1) := by decide +kernel
theorem dX11_keep_72 : decode cX11_keep 72 = .ok (.getfield 264, 3) := by decide +kernel
theorem dX11_keep_75 : decode cX11_keep 75 = .ok (.iastore, 1) := by decide +kernel
theorem dX11_keep_76 : decode cX11_keep 76 = .ok (.aload_n 0, 1) := by decide +kernel
theorem dX11_keep_77 : decode cX11_keep 77 = .ok (.getfield 135, 3) := by decide +kernel
theorem dX11_keep_80 : decode cX11_keep 80 = .ok (.iload_n 2, 1) := by decide +kernel
theorem dX11_keep_81 : decode cX11_keep 81 = .ok (.bipush 9, 2) := by decide +kernel
theorem dX11_keep_83 : decode cX11_keep 83 = .ok (.iadd, 1) := by decide +kernel
theorem dX11_keep_84 : decode cX11_keep 84 = .ok (.aload_n 0, 1) := by decide +kernel
theorem dX11_keep_85 : decode cX11_keep 85 = .ok (.getfield 267, 3) := by decide +kernel
theorem dX11_keep_88 : decode cX11_keep 88 = .ok (.ifCond .eq 7, 3) := by decide +kernel
theorem dX11_keep_91 : decode cX11_keep 91 = .ok (.iconst 1, 1) := by decide +kernel
theorem dX11_keep_92 : decode cX11_keep 92 = .ok (.goto 4, 3) := by decide +kernel
theorem dX11_keep_95 : decode cX11_keep 95 = .ok (.iconst 0, 1) := by decide +kernel
theorem dX11_keep_96 : decode cX11_keep 96 = .ok (.iastore, 1) := by decide +kernel
theorem dX11_keep_97 : decode cX11_keep 97 = .ok (.aload_n 0, 1) := by decide +kernel
theorem dX11_keep_98 : decode cX11_keep 98 = .ok (.getfield 135, 3) := by decide +kernel
theorem dX11_keep_101 : decode cX11_keep 101 = .ok (.iload_n 2, 1) := by decide +kernel
theorem dX11_keep_102 : decode cX11_keep 102 = .ok (.bipush 10, 2) := by decide +kernel
theorem dX11_keep_104 : decode cX11_keep 104 = .ok (.iadd, 1) := by decide +kernel
theorem dX11_keep_105 : decode cX11_keep 105 = .ok (.aload_n 0, 1) := by decide +kernel
theorem dX11_keep_106 : decode cX11_keep 106 = .ok (.getfield 318, 3) := by decide +kernel
theorem dX11_keep_109 : decode cX11_keep 109 = .ok (.iastore, 1) := by decide +kernel
theorem dX11_keep_110 : decode cX11_keep 110 = .ok (.aload_n 0, 1) := by decide +kernel
theorem dX11_keep_111 : decode cX11_keep 111 = .ok (.getfield 135, 3) := by decide +kernel
theorem dX11_keep_114 : decode cX11_keep 114 = .ok (.iload_n 2, 1) := by decide +kernel
theorem dX11_keep_115 : decode cX11_keep 115 = .ok (.bipush 11, 2) := by decide +kernel
theorem dX11_keep_117 : decode cX11_keep 117 = .ok (.iadd, 1) := by decide +kernel
theorem dX11_keep_118 : decode cX11_keep 118 = .ok (.aload_n 0, 1) := by decide +kernel
theorem dX11_keep_119 : decode cX11_keep 119 = .ok (.getfield 243, 3) := by decide +kernel
theorem dX11_keep_122 : decode cX11_keep 122 = .ok (.iastore, 1) := by decide +kernel
theorem dX11_keep_123 : decode cX11_keep 123 = .ok (.iconst 0, 1) := by decide +kernel
theorem dX11_keep_124 : decode cX11_keep 124 = .ok (.istore_n 3, 1) := by decide +kernel
theorem dX11_keep_125 : decode cX11_keep 125 = .ok (.iload_n 3, 1) := by decide +kernel
theorem dX11_keep_126 : decode cX11_keep 126 = .ok (.aload_n 0, 1) := by decide +kernel
theorem dX11_keep_127 : decode cX11_keep 127 = .ok (.getfield 243, 3) := by decide +kernel
theorem dX11_keep_130 : decode cX11_keep 130 = .ok (.if_icmp .ge 26, 3) := by decide +kernel
theorem dX11_keep_133 : decode cX11_keep 133 = .ok (.aload_n 0, 1) := by decide +kernel
theorem dX11_keep_134 : decode cX11_keep 134 = .ok (.getfield 135, 3) := by decide +kernel
theorem dX11_keep_137 : decode cX11_keep 137 = .ok (.iload_n 2, 1) := by decide +kernel
theorem dX11_keep_138 : decode cX11_keep 138 = .ok (.bipush 12, 2) := by decide +kernel
theorem dX11_keep_140 : decode cX11_keep 140 = .ok (.iadd, 1) := by decide +kernel
theorem dX11_keep_141 : decode cX11_keep 141 = .ok (.iload_n 3, 1) := by decide +kernel
theorem dX11_keep_142 : decode cX11_keep 142 = .ok (.iadd, 1) := by decide +kernel
theorem dX11_keep_143 : decode cX11_keep 143 = .ok (.aload_n 0, 1) := by decide +kernel
theorem dX11_keep_144 : decode cX11_keep 144 = .ok (.getfield 22, 3) := by decide +kernel
theorem dX11_keep_147 : decode cX11_keep 147 = .ok (.iload_n 3, 1) := by decide +kernel
theorem dX11_keep_148 : decode cX11_keep 148 = .ok (.iaload, 1) := by decide +kernel
theorem dX11_keep_149 : decode cX11_keep 149 = .ok (.iastore, 1) := by decide +kernel
theorem dX11_keep_150 : decode cX11_keep 150 = .ok (.iinc 3 1, 3) := by decide +kernel
theorem dX11_keep_153 : decode cX11_keep 153 = .ok (.goto (-28), 3) := by decide +kernel
theorem dX11_keep_156 : decode cX11_keep 156 = .ok (.aload_n 0, 1) := by decide +kernel
theorem dX11_keep_157 : decode cX11_keep 157 = .ok (.getfield 138, 3) := by decide +kernel
theorem dX11_keep_160 : decode cX11_keep 160 = .ok (.iload_n 1, 1) := by decide +kernel
theorem dX11_keep_161 : decode cX11_keep 161 = .ok (.iconst 1, 1) := by decide +kernel
theorem dX11_keep_162 : decode cX11_keep 162 = .ok (.bastore, 1) := by decide +kernel
theorem dX11_keep_163 : decode cX11_keep 163 = .ok (.iconst 1, 1) := by decide +kernel
theorem dX11_keep_164 : decode cX11_keep 164 = .ok (.ireturn, 1) := by decide +kernel
theorem dX11_goBack_0 : decode cX11_goBack 0 = .ok (.iload_n 1, 1) := by decide +kernel
theorem dX11_goBack_1 : decode cX11_goBack 1 = .ok (.i2l, 1) := by decide +kernel
theorem dX11_goBack_2 : decode cX11_goBack 2 = .ok (.lconst 0, 1) := by decide +kernel
theorem dX11_goBack_3 : decode cX11_goBack 3 = .ok (.lconst 1, 1) := by decide +kernel
theorem dX11_goBack_4 : decode cX11_goBack 4 = .ok (.invokestatic 144, 3) := by decide +kernel
theorem dX11_goBack_7 : decode cX11_goBack 7 = .ok (.ifCond .ne 7, 3) := by decide +kernel
theorem dX11_goBack_10 : decode cX11_goBack 10 = .ok (.sipush (-1001), 3) := by decide +kernel
theorem dX11_goBack_13 : decode cX11_goBack 13 = .ok (.ireturn, 1) := by decide +kernel
theorem dX11_goBack_14 : decode cX11_goBack 14 = .ok (.aload_n 0, 1) := by decide +kernel
theorem dX11_goBack_15 : decode cX11_goBack 15 = .ok (.getfield 138, 3) := by decide +kernel
theorem dX11_goBack_18 : decode cX11_goBack 18 = .ok (.iload_n 1, 1) := by decide +kernel
theorem dX11_goBack_19 : decode cX11_goBack 19 = .ok (.baload, 1) := by decide +kernel
theorem dX11_goBack_20 : decode cX11_goBack 20 = .ok (.ifCond .ne 7, 3) := by decide +kernel
theorem dX11_goBack_23 : decode cX11_goBack 23 = .ok (.sipush (-1003), 3) := by decide +kernel
theorem dX11_goBack_26 : decode cX11_goBack 26 = .ok (.ireturn, 1) := by decide +kernel
theorem dX11_goBack_27 : decode cX11_goBack 27 = .ok (.sipush 140, 3) := by decide +kernel
theorem dX11_goBack_30 : decode cX11_goBack 30 = .ok (.iload_n 1, 1) := by decide +kernel
theorem dX11_goBack_31 : decode cX11_goBack 31 = .ok (.imul, 1) := by decide +kernel
theorem dX11_goBack_32 : decode cX11_goBack 32 = .ok (.istore_n 2, 1) := by decide +kernel
theorem dX11_goBack_33 : decode cX11_goBack 33 = .ok (.iconst 0, 1) := by decide +kernel
theorem dX11_goBack_34 : decode cX11_goBack 34 = .ok (.istore_n 3, 1) := by decide +kernel
theorem dX11_goBack_35 : decode cX11_goBack 35 = .ok (.iload_n 3, 1) := by decide +kernel
theorem dX11_goBack_36 : decode cX11_goBack 36 = .ok (.iconst 4, 1) := by decide +kernel
theorem dX11_goBack_37 : decode cX11_goBack 37 = .ok (.if_icmp .ge 39, 3) := by decide +kernel
theorem dX11_goBack_40 : decode cX11_goBack 40 = .ok (.aload_n 0, 1) := by decide +kernel
theorem dX11_goBack_41 : decode cX11_goBack 41 = .ok (.getfield 31, 3) := by decide +kernel
theorem dX11_goBack_44 : decode cX11_goBack 44 = .ok (.iload_n 3, 1) := by decide +kernel
theorem dX11_goBack_45 : decode cX11_goBack 45 = .ok (.aload_n 0, 1) := by decide +kernel
theorem dX11_goBack_46 : decode cX11_goBack 46 = .ok (.getfield 135, 3) := by decide +kernel
theorem dX11_goBack_49 : decode cX11_goBack 49 = .ok (.iload_n 2, 1) := by decide +kernel
theorem dX11_goBack_50 : decode cX11_goBack 50 = .ok (.iload_n 3, 1) := by decide +kernel
theorem dX11_goBack_51 : decode cX11_goBack 51 = .ok (.iadd, 1) := by decide +kernel
theorem dX11_goBack_52 : decode cX11_goBack 52 = .ok (.iaload, 1) := by decide +kernel
theorem dX11_goBack_53 : decode cX11_goBack 53 = .ok (.iastore, 1) := by decide +kernel
theorem dX11_goBack_54 : decode cX11_goBack 54 = .ok (.aload_n 0, 1) := by decide +kernel
theorem dX11_goBack_55 : decode cX11_goBack 55 = .ok (.getfield 34, 3) := by decide +kernel
theorem dX11_goBack_58 : decode cX11_goBack 58 = .ok (.iload_n 3, 1) := by decide +kernel
theorem dX11_goBack_59 : decode cX11_goBack 59 = .ok (.aload_n 0, 1) := by decide +kernel
theorem dX11_goBack_60 : decode cX11_goBack 60 = .ok (.getfield 135, 3) := by decide +kernel
theorem dX11_goBack_63 : decode cX11_goBack 63 = .ok (.iload_n 2, 1) := by decide +kernel
theorem dX11_goBack_64 : decode cX11_goBack 64 = .ok (.iconst 4, 1) := by decide +kernel
theorem dX11_goBack_65 : decode cX11_goBack 65 = .ok (.iadd, 1) := by decide +kernel
theorem dX11_goBack_66 : decode cX11_goBack 66 = .ok (.iload_n 3, 1) := by decide +kernel
theorem dX11_goBack_67 : decode cX11_goBack 67 = .ok (.iadd, 1) := by decide +kernel
theorem dX11_goBack_68 : decode cX11_goBack 68 = .ok (.iaload, 1) := by decide +kernel
theorem dX11_goBack_69 : decode cX11_goBack 69 = .ok (.iastore, 1) := by decide +kernel
theorem dX11_goBack_70 : decode cX11_goBack 70 = .ok (.iinc 3 1, 3) := by decide +kernel
theorem dX11_goBack_73 : decode cX11_goBack 73 = .ok (.goto (-38), 3) := by decide +kernel
theorem dX11_goBack_76 : decode cX11_goBack 76 = .ok (.aload_n 0, 1) := by decide +kernel
theorem dX11_goBack_77 : decode cX11_goBack 77 = .ok (.aload_n 0, 1) := by decide +kernel
theorem dX11_goBack_78 : decode cX11_goBack 78 = .ok (.getfield 135, 3) := by decide +kernel
theorem dX11_goBack_81 : decode cX11_goBack 81 = .ok (.iload_n 2, 1) := by decide +kernel
theorem dX11_goBack_82 : decode cX11_goBack 82 = .ok (.bipush 8, 2) := by decide +kernel
theorem dX11_goBack_84 : decode cX11_goBack 84 = .ok (.iadd, 1) := by decide +kernel
theorem dX11_goBack_85 : decode cX11_goBack 85 = .ok (.iaload, 1) := by decide +kernel
theorem dX11_goBack_86 : decode cX11_goBack 86 = .ok (.putfield 264, 3) := by decide +kernel
theorem dX11_goBack_89 : decode cX11_goBack 89 = .ok (.aload_n 0, 1) := by decide +kernel
theorem dX11_goBack_90 : decode cX11_goBack 90 = .ok (.aload_n 0, 1) := by decide +kernel
theorem dX11_goBack_91 : decode cX11_goBack 91 = .ok (.getfield 135, 3) := by decide +kernel
theorem dX11_goBack_94 : decode cX11_goBack 94 = .ok (.iload_n 2, 1) := by decide +kernel
theorem dX11_goBack_95 : decode cX11_goBack 95 = .ok (.bipush 9, 2) := by decide +kernel
theorem dX11_goBack_97 : decode cX11_goBack 97 = .ok (.iadd, 1) := by decide +kernel
theorem dX11_goBack_98 : decode cX11_goBack 98 = .ok (.iaload, 1) := by decide +kernel
theorem dX11_goBack_99 : decode cX11_goBack 99 = .ok (.iconst 1, 1) := by decide +kernel
theorem dX11_goBack_100 : decode cX11_goBack 100 = .ok (.if_icmp .ne 7, 3) := by decide +kernel
theorem dX11_goBack_103 : decode cX11_goBack 103 = .ok (.iconst 1, 1) := by decide +kernel
theorem dX11_goBack_104 : decode cX11_goBack 104 = .ok (.goto 4, 3) := by decide +kernel
theorem dX11_goBack_107 : decode cX11_goBack 107 = .ok (.iconst 0, 1) := by decide +kernel
theorem dX11_goBack_108 : decode cX11_goBack 108 = .ok (.putfield 267, 3) := by decide +kernel
theorem dX11_goBack_111 : decode cX11_goBack 111 = .ok (.aload_n 0, 1) := by decide +kernel
theorem dX11_goBack_112 : decode cX11_goBack 112 = .ok (.aload_n 0, 1) := by decide +kernel
theorem dX11_goBack_113 : decode cX11_goBack 113 = .ok (.getfield 135, 3) := by decide +kernel
theorem dX11_goBack_116 : decode cX11_goBack 116 = .ok (.iload_n 2, 1) := by decide +kernel
theorem dX11_goBack_117 : decode cX11_goBack 117 = .ok (.bipush 10, 2) := by decide +kernel
theorem dX11_goBack_119 : decode cX11_goBack 119 = .ok (.iadd, 1) := by decide +kernel
theorem dX11_goBack_120 : decode cX11_goBack 120 = .ok (.iaload, 1) := by decide +kernel
theorem dX11_goBack_121 : decode cX11_goBack 121 = .ok (.putfield 318, 3) := by decide +kernel
theorem dX11_goBack_124 : decode cX11_goBack 124 = .ok (.aload_n 0, 1) := by decide +kernel
theorem dX11_goBack_125 : decode cX11_goBack 125 = .ok (.aload_n 0, 1) := by decide +kernel
theorem dX11_goBack_126 : decode cX11_goBack 126 = .ok (.getfield 135, 3) := by decide +kernel
theorem dX11_goBack_129 : decode cX11_goBack 129 = .ok (.iload_n 2, 1) := by decide +kernel
theorem dX11_goBack_130 : decode cX11_goBack 130 = .ok (.bipush 11, 2) := by decide +kernel
theorem dX11_goBack_132 : decode cX11_goBack 132 = .ok (.iadd, 1) := by decide +kernel
theorem dX11_goBack_133 : decode cX11_goBack 133 = .ok (.iaload, 1) := by decide +kernel
theorem dX11_goBack_134 : decode cX11_goBack 134 = .ok (.putfield 243, 3) := by decide +kernel
theorem dX11_goBack_137 : decode cX11_goBack 137 = .ok (.iconst 0, 1) := by decide +kernel
theorem dX11_goBack_138 : decode cX11_goBack 138 = .ok (.istore_n 3, 1) := by decide +kernel
theorem dX11_goBack_139 : decode cX11_goBack 139 = .ok (.iload_n 3, 1) := by decide +kernel
theorem dX11_goBack_140 : decode cX11_goBack 140 = .ok (.aload_n 0, 1) := by decide +kernel
theorem dX11_goBack_141 : decode cX11_goBack 141 = .ok (.getfield 243, 3) := by decide +kernel
theorem dX11_goBack_144 : decode cX11_goBack 144 = .ok (.if_icmp .ge 26, 3) := by decide +kernel
theorem dX11_goBack_147 : decode cX11_goBack 147 = .ok (.aload_n 0, 1) := by decide +kernel
theorem dX11_goBack_148 : decode cX11_goBack 148 = .ok (.getfield 22, 3) := by decide +kernel
theorem dX11_goBack_151 : decode cX11_goBack 151 = .ok (.iload_n 3, 1) := by decide +kernel
theorem dX11_goBack_152 : decode cX11_goBack 152 = .ok (.aload_n 0, 1) := by decide +kernel
theorem dX11_goBack_153 : decode cX11_goBack 153 = .ok (.getfield 135, 3) := by decide +kernel
theorem dX11_goBack_156 : decode cX11_goBack 156 = .ok (.iload_n 2, 1) := by decide +kernel
theorem dX11_goBack_157 : decode cX11_goBack 157 = .ok (.bipush 12, 2) := by decide +kernel
theorem dX11_goBack_159 : decode cX11_goBack 159 = .ok (.iadd, 1) := by decide +kernel
theorem dX11_goBack_160 : decode cX11_goBack 160 = .ok (.iload_n 3, 1) := by decide +kernel
theorem dX11_goBack_161 : decode cX11_goBack 161 = .ok (.iadd, 1) := by decide +kernel
theorem dX11_goBack_162 : decode cX11_goBack 162 = .ok (.iaload, 1) := by decide +kernel
theorem dX11_goBack_163 : decode cX11_goBack 163 = .ok (.iastore, 1) := by decide +kernel
theorem dX11_goBack_164 : decode cX11_goBack 164 = .ok (.iinc 3 1, 3) := by decide +kernel
theorem dX11_goBack_167 : decode cX11_goBack 167 = .ok (.goto (-28), 3) := by decide +kernel
theorem dX11_goBack_170 : decode cX11_goBack 170 = .ok (.iconst 1, 1) := by decide +kernel
theorem dX11_goBack_171 : decode cX11_goBack 171 = .ok (.ireturn, 1) := by decide +kernel
