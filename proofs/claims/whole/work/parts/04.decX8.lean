theorem dX8_init_0 : decode cX8_init 0 = .ok (.aload_n 0, 1) := by decide +kernel
theorem dX8_init_1 : decode cX8_init 1 = .ok (.invokespecial 1, 3) := by decide +kernel
theorem dX8_init_4 : decode cX8_init 4 = .ok (.aload_n 0, 1) := by decide +kernel
theorem dX8_init_5 : decode cX8_init 5 = .ok (.sipush 200, 3) := by decide +kernel
theorem dX8_init_8 : decode cX8_init 8 = .ok (.newarray .int, 2) := by decide +kernel
theorem dX8_init_10 : decode cX8_init 10 = .ok (.putfield 7, 3) := by decide +kernel
theorem dX8_init_13 : decode cX8_init 13 = .ok (.aload_n 0, 1) := by decide +kernel
theorem dX8_init_14 : decode cX8_init 14 = .ok (.sipush 200, 3) := by decide +kernel
theorem dX8_init_17 : decode cX8_init 17 = .ok (.newarray .int, 2) := by decide +kernel
theorem dX8_init_19 : decode cX8_init 19 = .ok (.putfield 13, 3) := by decide +kernel
theorem dX8_init_22 : decode cX8_init 22 = .ok (.aload_n 0, 1) := by decide +kernel
theorem dX8_init_23 : decode cX8_init 23 = .ok (.sipush 200, 3) := by decide +kernel
theorem dX8_init_26 : decode cX8_init 26 = .ok (.newarray .int, 2) := by decide +kernel
theorem dX8_init_28 : decode cX8_init 28 = .ok (.putfield 16, 3) := by decide +kernel
theorem dX8_init_31 : decode cX8_init 31 = .ok (.aload_n 0, 1) := by decide +kernel
theorem dX8_init_32 : decode cX8_init 32 = .ok (.sipush 200, 3) := by decide +kernel
theorem dX8_init_35 : decode cX8_init 35 = .ok (.newarray .int, 2) := by decide +kernel
theorem dX8_init_37 : decode cX8_init 37 = .ok (.putfield 19, 3) := by decide +kernel
theorem dX8_init_40 : decode cX8_init 40 = .ok (.aload_n 0, 1) := by decide +kernel
theorem dX8_init_41 : decode cX8_init 41 = .ok (.sipush 200, 3) := by decide +kernel
theorem dX8_init_44 : decode cX8_init 44 = .ok (.newarray .int, 2) := by decide +kernel
theorem dX8_init_46 : decode cX8_init 46 = .ok (.putfield 22, 3) := by decide +kernel
theorem dX8_init_49 : decode cX8_init 49 = .ok (.aload_n 0, 1) := by decide +kernel
theorem dX8_init_50 : decode cX8_init 50 = .ok (.sipush 200, 3) := by decide +kernel
theorem dX8_init_53 : decode cX8_init 53 = .ok (.newarray .boolean, 2) := by decide +kernel
theorem dX8_init_55 : decode cX8_init 55 = .ok (.putfield 25, 3) := by decide +kernel
theorem dX8_init_58 : decode cX8_init 58 = .ok (.aload_n 0, 1) := by decide +kernel
theorem dX8_init_59 : decode cX8_init 59 = .ok (.sipush 1200, 3) := by decide +kernel
theorem dX8_init_62 : decode cX8_init 62 = .ok (.newarray .int, 2) := by decide +kernel
theorem dX8_init_64 : decode cX8_init 64 = .ok (.putfield 29, 3) := by decide +kernel
theorem dX8_init_67 : decode cX8_init 67 = .ok (.aload_n 0, 1) := by decide +kernel
theorem dX8_init_68 : decode cX8_init 68 = .ok (.bipush 6, 2) := by decide +kernel
theorem dX8_init_70 : decode cX8_init 70 = .ok (.newarray .int, 2) := by decide +kernel
theorem dX8_init_72 : decode cX8_init 72 = .ok (.putfield 32, 3) := by decide +kernel
theorem dX8_init_75 : decode cX8_init 75 = .ok (.aload_n 0, 1) := by decide +kernel
theorem dX8_init_76 : decode cX8_init 76 = .ok (.bipush 40, 2) := by decide +kernel
theorem dX8_init_78 : decode cX8_init 78 = .ok (.newarray .int, 2) := by decide +kernel
theorem dX8_init_80 : decode cX8_init 80 = .ok (.putfield 35, 3) := by decide +kernel
theorem dX8_init_83 : decode cX8_init 83 = .ok (.aload_n 0, 1) := by decide +kernel
theorem dX8_init_84 : decode cX8_init 84 = .ok (.bipush 40, 2) := by decide +kernel
theorem dX8_init_86 : decode cX8_init 86 = .ok (.newarray .int, 2) := by decide +kernel
theorem dX8_init_88 : decode cX8_init 88 = .ok (.putfield 38, 3) := by decide +kernel
theorem dX8_init_91 : decode cX8_init 91 = .ok (.aload_n 0, 1) := by decide +kernel
theorem dX8_init_92 : decode cX8_init 92 = .ok (.bipush 40, 2) := by decide +kernel
theorem dX8_init_94 : decode cX8_init 94 = .ok (.newarray .int, 2) := by decide +kernel
theorem dX8_init_96 : decode cX8_init 96 = .ok (.putfield 41, 3) := by decide +kernel
theorem dX8_init_99 : decode cX8_init 99 = .ok (.aload_n 0, 1) := by decide +kernel
theorem dX8_init_100 : decode cX8_init 100 = .ok (.bipush 40, 2) := by decide +kernel
theorem dX8_init_102 : decode cX8_init 102 = .ok (.newarray .int, 2) := by decide +kernel
theorem dX8_init_104 : decode cX8_init 104 = .ok (.putfield 44, 3) := by decide +kernel
theorem dX8_init_107 : decode cX8_init 107 = .ok (.aload_n 0, 1) := by decide +kernel
theorem dX8_init_108 : decode cX8_init 108 = .ok (.bipush 40, 2) := by decide +kernel
theorem dX8_init_110 : decode cX8_init 110 = .ok (.newarray .int, 2) := by decide +kernel
theorem dX8_init_112 : decode cX8_init 112 = .ok (.putfield 47, 3) := by decide +kernel
theorem dX8_init_115 : decode cX8_init 115 = .ok (.aload_n 0, 1) := by decide +kernel
theorem dX8_init_116 : decode cX8_init 116 = .ok (.bipush 40, 2) := by decide +kernel
theorem dX8_init_118 : decode cX8_init 118 = .ok (.newarray .int, 2) := by decide +kernel
theorem dX8_init_120 : decode cX8_init 120 = .ok (.putfield 50, 3) := by decide +kernel
theorem dX8_init_123 : decode cX8_init 123 = .ok (.aload_n 0, 1) := by decide +kernel
theorem dX8_init_124 : decode cX8_init 124 = .ok (.bipush 40, 2) := by decide +kernel
theorem dX8_init_126 : decode cX8_init 126 = .ok (.newarray .boolean, 2) := by decide +kernel
theorem dX8_init_128 : decode cX8_init 128 = .ok (.putfield 53, 3) := by decide +kernel
theorem dX8_init_131 : decode cX8_init 131 = .ok (.aload_n 0, 1) := by decide +kernel
theorem dX8_init_132 : decode cX8_init 132 = .ok (.bipush 40, 2) := by decide +kernel
theorem dX8_init_134 : decode cX8_init 134 = .ok (.newarray .int, 2) := by decide +kernel
theorem dX8_init_136 : decode cX8_init 136 = .ok (.putfield 56, 3) := by decide +kernel
theorem dX8_init_139 : decode cX8_init 139 = .ok (.aload_n 0, 1) := by decide +kernel
theorem dX8_init_140 : decode cX8_init 140 = .ok (.bipush 40, 2) := by decide +kernel
theorem dX8_init_142 : decode cX8_init 142 = .ok (.newarray .boolean, 2) := by decide +kernel
theorem dX8_init_144 : decode cX8_init 144 = .ok (.putfield 59, 3) := by decide +kernel
theorem dX8_init_147 : decode cX8_init 147 = .ok (.aload_n 0, 1) := by decide +kernel
theorem dX8_init_148 : decode cX8_init 148 = .ok (.bipush 40, 2) := by decide +kernel
theorem dX8_init_150 : decode cX8_init 150 = .ok (.newarray .int, 2) := by decide +kernel
theorem dX8_init_152 : decode cX8_init 152 = .ok (.putfield 62, 3) := by decide +kernel
theorem dX8_init_155 : decode cX8_init 155 = .ok (.aload_n 0, 1) := by decide +kernel
theorem dX8_init_156 : decode cX8_init 156 = .ok (.bipush 40, 2) := by decide +kernel
theorem dX8_init_158 : decode cX8_init 158 = .ok (.newarray .int, 2) := by decide +kernel
theorem dX8_init_160 : decode cX8_init 160 = .ok (.putfield 65, 3) := by decide +kernel
theorem dX8_init_163 : decode cX8_init 163 = .ok (.aload_n 0, 1) := by decide +kernel
theorem dX8_init_164 : decode cX8_init 164 = .ok (.bipush 40, 2) := by decide +kernel
theorem dX8_init_166 : decode cX8_init 166 = .ok (.newarray .int, 2) := by decide +kernel
theorem dX8_init_168 : decode cX8_init 168 = .ok (.putfield 68, 3) := by decide +kernel
theorem dX8_init_171 : decode cX8_init 171 = .ok (.aload_n 0, 1) := by decide +kernel
theorem dX8_init_172 : decode cX8_init 172 = .ok (.bipush 40, 2) := by decide +kernel
theorem dX8_init_174 : decode cX8_init 174 = .ok (.newarray .int, 2) := by decide +kernel
theorem dX8_init_176 : decode cX8_init 176 = .ok (.putfield 71, 3) := by decide +kernel
theorem dX8_init_179 : decode cX8_init 179 = .ok (.aload_n 0, 1) := by decide +kernel
theorem dX8_init_180 : decode cX8_init 180 = .ok (.bipush 8, 2) := by decide +kernel
theorem dX8_init_182 : decode cX8_init 182 = .ok (.newarray .int, 2) := by decide +kernel
theorem dX8_init_184 : decode cX8_init 184 = .ok (.putfield 74, 3) := by decide +kernel
theorem dX8_init_187 : decode cX8_init 187 = .ok (.aload_n 0, 1) := by decide +kernel
theorem dX8_init_188 : decode cX8_init 188 = .ok (.bipush 8, 2) := by decide +kernel
theorem dX8_init_190 : decode cX8_init 190 = .ok (.newarray .int, 2) := by decide +kernel
theorem dX8_init_192 : decode cX8_init 192 = .ok (.putfield 77, 3) := by decide +kernel
theorem dX8_init_195 : decode cX8_init 195 = .ok (.aload_n 0, 1) := by decide +kernel
theorem dX8_init_196 : decode cX8_init 196 = .ok (.bipush 8, 2) := by decide +kernel
theorem dX8_init_198 : decode cX8_init 198 = .ok (.newarray .int, 2) := by decide +kernel
theorem dX8_init_200 : decode cX8_init 200 = .ok (.putfield 80, 3) := by decide +kernel
theorem dX8_init_203 : decode cX8_init 203 = .ok (.aload_n 0, 1) := by decide +kernel
theorem dX8_init_204 : decode cX8_init 204 = .ok (.bipush 8, 2) := by decide +kernel
theorem dX8_init_206 : decode cX8_init 206 = .ok (.newarray .int, 2) := by decide +kernel
theorem dX8_init_208 : decode cX8_init 208 = .ok (.putfield 83, 3) := by decide +kernel
theorem dX8_init_211 : decode cX8_init 211 = .ok (.aload_n 0, 1) := by decide +kernel
theorem dX8_init_212 : decode cX8_init 212 = .ok (.bipush 8, 2) := by decide +kernel
theorem dX8_init_214 : decode cX8_init 214 = .ok (.newarray .int, 2) := by decide +kernel
theorem dX8_init_216 : decode cX8_init 216 = .ok (.putfield 86, 3) := by decide +kernel
theorem dX8_init_219 : decode cX8_init 219 = .ok (.aload_n 0, 1) := by decide +kernel
theorem dX8_init_220 : decode cX8_init 220 = .ok (.bipush 8, 2) := by decide +kernel
theorem dX8_init_222 : decode cX8_init 222 = .ok (.newarray .int, 2) := by decide +kernel
theorem dX8_init_224 : decode cX8_init 224 = .ok (.putfield 89, 3) := by decide +kernel
theorem dX8_init_227 : decode cX8_init 227 = .ok (.aload_n 0, 1) := by decide +kernel
theorem dX8_init_228 : decode cX8_init 228 = .ok (.bipush 8, 2) := by decide +kernel
theorem dX8_init_230 : decode cX8_init 230 = .ok (.newarray .int, 2) := by decide +kernel
theorem dX8_init_232 : decode cX8_init 232 = .ok (.putfield 92, 3) := by decide +kernel
theorem dX8_init_235 : decode cX8_init 235 = .ok (.aload_n 0, 1) := by decide +kernel
theorem dX8_init_236 : decode cX8_init 236 = .ok (.bipush 8, 2) := by decide +kernel
theorem dX8_init_238 : decode cX8_init 238 = .ok (.newarray .boolean, 2) := by decide +kernel
theorem dX8_init_240 : decode cX8_init 240 = .ok (.putfield 95, 3) := by decide +kernel
theorem dX8_init_243 : decode cX8_init 243 = .ok (.aload_n 0, 1) := by decide +kernel
theorem dX8_init_244 : decode cX8_init 244 = .ok (.bipush 8, 2) := by decide +kernel
theorem dX8_init_246 : decode cX8_init 246 = .ok (.newarray .boolean, 2) := by decide +kernel
theorem dX8_init_248 : decode cX8_init 248 = .ok (.putfield 98, 3) := by decide +kernel
theorem dX8_init_251 : decode cX8_init 251 = .ok (.aload_n 0, 1) := by decide +kernel
theorem dX8_init_252 : decode cX8_init 252 = .ok (.bipush 48, 2) := by decide +kernel
theorem dX8_init_254 : decode cX8_init 254 = .ok (.newarray .int, 2) := by decide +kernel
theorem dX8_init_256 : decode cX8_init 256 = .ok (.putfield 101, 3) := by decide +kernel
theorem dX8_init_259 : decode cX8_init 259 = .ok (.aload_n 0, 1) := by decide +kernel
theorem dX8_init_260 : decode cX8_init 260 = .ok (.sipush 1600, 3) := by decide +kernel
theorem dX8_init_263 : decode cX8_init 263 = .ok (.newarray .boolean, 2) := by decide +kernel
theorem dX8_init_265 : decode cX8_init 265 = .ok (.putfield 104, 3) := by decide +kernel
theorem dX8_init_268 : decode cX8_init 268 = .ok (.aload_n 0, 1) := by decide +kernel
theorem dX8_init_269 : decode cX8_init 269 = .ok (.bipush 8, 2) := by decide +kernel
theorem dX8_init_271 : decode cX8_init 271 = .ok (.newarray .int, 2) := by decide +kernel
theorem dX8_init_273 : decode cX8_init 273 = .ok (.putfield 107, 3) := by decide +kernel
theorem dX8_init_276 : decode cX8_init 276 = .ok (.aload_n 0, 1) := by decide +kernel
theorem dX8_init_277 : decode cX8_init 277 = .ok (.sipush 320, 3) := by decide +kernel
theorem dX8_init_280 : decode cX8_init 280 = .ok (.newarray .int, 2) := by decide +kernel
theorem dX8_init_282 : decode cX8_init 282 = .ok (.putfield 110, 3) := by decide +kernel
theorem dX8_init_285 : decode cX8_init 285 = .ok (.aload_n 0, 1) := by decide +kernel
theorem dX8_init_286 : decode cX8_init 286 = .ok (.sipush 320, 3) := by decide +kernel
theorem dX8_init_289 : decode cX8_init 289 = .ok (.newarray .int, 2) := by decide +kernel
theorem dX8_init_291 : decode cX8_init 291 = .ok (.putfield 113, 3) := by decide +kernel
theorem dX8_init_294 : decode cX8_init 294 = .ok (.aload_n 0, 1) := by decide +kernel
theorem dX8_init_295 : decode cX8_init 295 = .ok (.sipush 320, 3) := by decide +kernel
theorem dX8_init_298 : decode cX8_init 298 = .ok (.newarray .int, 2) := by decide +kernel
theorem dX8_init_300 : decode cX8_init 300 = .ok (.putfield 116, 3) := by decide +kernel
theorem dX8_init_303 : decode cX8_init 303 = .ok (.aload_n 0, 1) := by decide +kernel
theorem dX8_init_304 : decode cX8_init 304 = .ok (.sipush 320, 3) := by decide +kernel
theorem dX8_init_307 : decode cX8_init 307 = .ok (.newarray .int, 2) := by decide +kernel
theorem dX8_init_309 : decode cX8_init 309 = .ok (.putfield 119, 3) := by decide +kernel
theorem dX8_init_312 : decode cX8_init 312 = .ok (.aload_n 0, 1) := by decide +kernel
theorem dX8_init_313 : decode cX8_init 313 = .ok (.sipush 160, 3) := by decide +kernel
theorem dX8_init_316 : decode cX8_init 316 = .ok (.newarray .int, 2) := by decide +kernel
theorem dX8_init_318 : decode cX8_init 318 = .ok (.putfield 122, 3) := by decide +kernel
theorem dX8_init_321 : decode cX8_init 321 = .ok (.aload_n 0, 1) := by decide +kernel
theorem dX8_init_322 : decode cX8_init 322 = .ok (.sipush 160, 3) := by decide +kernel
theorem dX8_init_325 : decode cX8_init 325 = .ok (.newarray .int, 2) := by decide +kernel
theorem dX8_init_327 : decode cX8_init 327 = .ok (.putfield 125, 3) := by decide +kernel
theorem dX8_init_330 : decode cX8_init 330 = .ok (.aload_n 0, 1) := by decide +kernel
theorem dX8_init_331 : decode cX8_init 331 = .ok (.sipush 160, 3) := by decide +kernel
theorem dX8_init_334 : decode cX8_init 334 = .ok (.newarray .int, 2) := by decide +kernel
theorem dX8_init_336 : decode cX8_init 336 = .ok (.putfield 128, 3) := by decide +kernel
theorem dX8_init_339 : decode cX8_init 339 = .ok (.aload_n 0, 1) := by decide +kernel
theorem dX8_init_340 : decode cX8_init 340 = .ok (.sipush 160, 3) := by decide +kernel
theorem dX8_init_343 : decode cX8_init 343 = .ok (.newarray .int, 2) := by decide +kernel
theorem dX8_init_345 : decode cX8_init 345 = .ok (.putfield 131, 3) := by decide +kernel
theorem dX8_init_348 : decode cX8_init 348 = .ok (.aload_n 0, 1) := by decide +kernel
theorem dX8_init_349 : decode cX8_init 349 = .ok (.bipush 6, 2) := by decide +kernel
theorem dX8_init_351 : decode cX8_init 351 = .ok (.newarray .int, 2) := by decide +kernel
theorem dX8_init_353 : decode cX8_init 353 = .ok (.putfield 134, 3) := by decide +kernel
theorem dX8_init_356 : decode cX8_init 356 = .ok (.aload_n 0, 1) := by decide +kernel
theorem dX8_init_357 : decode cX8_init 357 = .ok (.bipush 8, 2) := by decide +kernel
theorem dX8_init_359 : decode cX8_init 359 = .ok (.newarray .int, 2) := by decide +kernel
theorem dX8_init_361 : decode cX8_init 361 = .ok (.putfield 137, 3) := by decide +kernel
theorem dX8_init_364 : decode cX8_init 364 = .ok (.return_, 1) := by decide +kernel
theorem dX8_thrown_0 : decode cX8_thrown 0 = .ok (.aload_n 0, 1) := by decide +kernel
theorem dX8_thrown_1 : decode cX8_thrown 1 = .ok (.getfield 140, 3) := by decide +kernel
theorem dX8_thrown_4 : decode cX8_thrown 4 = .ok (.ireturn, 1) := by decide +kernel
theorem dX8_isIn_0 : decode cX8_isIn 0 = .ok (.iload_n 0, 1) := by decide +kernel
theorem dX8_isIn_1 : decode cX8_isIn 1 = .ok (.iload_n 1, 1) := by decide +kernel
theorem dX8_isIn_2 : decode cX8_isIn 2 = .ok (.if_icmp .lt 12, 3) := by decide +kernel
theorem dX8_isIn_5 : decode cX8_isIn 5 = .ok (.iload_n 0, 1) := by decide +kernel
theorem dX8_isIn_6 : decode cX8_isIn 6 = .ok (.iload_n 2, 1) := by decide +kernel
theorem dX8_isIn_7 : decode cX8_isIn 7 = .ok (.if_icmp .gt 7, 3) := by decide +kernel
theorem dX8_isIn_10 : decode cX8_isIn 10 = .ok (.iconst 1, 1) := by decide +kernel
theorem dX8_isIn_11 : decode cX8_isIn 11 = .ok (.goto 4, 3) := by decide +kernel
theorem dX8_isIn_14 : decode cX8_isIn 14 = .ok (.iconst 0, 1) := by decide +kernel
theorem dX8_isIn_15 : decode cX8_isIn 15 = .ok (.ireturn, 1) := by decide +kernel
theorem dX8_isHand_0 : decode cX8_isHand 0 = .ok (.iload_n 0, 1) := by decide +kernel
theorem dX8_isHand_1 : decode cX8_isHand 1 = .ok (.iconst 0, 1) := by decide +kernel
theorem dX8_isHand_2 : decode cX8_isHand 2 = .ok (.iconst 5, 1) := by decide +kernel
theorem dX8_isHand_3 : decode cX8_isHand 3 = .ok (.invokestatic 144, 3) := by decide +kernel
theorem dX8_isHand_6 : decode cX8_isHand 6 = .ok (.ireturn, 1) := by decide +kernel
theorem dX8_isBuyer_0 : decode cX8_isBuyer 0 = .ok (.iload_n 0, 1) := by decide +kernel
theorem dX8_isBuyer_1 : decode cX8_isBuyer 1 = .ok (.iconst 0, 1) := by decide +kernel
theorem dX8_isBuyer_2 : decode cX8_isBuyer 2 = .ok (.bipush 7, 2) := by decide +kernel
theorem dX8_isBuyer_4 : decode cX8_isBuyer 4 = .ok (.invokestatic 144, 3) := by decide +kernel
theorem dX8_isBuyer_7 : decode cX8_isBuyer 7 = .ok (.ireturn, 1) := by decide +kernel
theorem dX8_isShape_0 : decode cX8_isShape 0 = .ok (.iload_n 1, 1) := by decide +kernel
theorem dX8_isShape_1 : decode cX8_isShape 1 = .ok (.iconst 0, 1) := by decide +kernel
theorem dX8_isShape_2 : decode cX8_isShape 2 = .ok (.aload_n 0, 1) := by decide +kernel
theorem dX8_isShape_3 : decode cX8_isShape 3 = .ok (.getfield 148, 3) := by decide +kernel
theorem dX8_isShape_6 : decode cX8_isShape 6 = .ok (.iconst 1, 1) := by decide +kernel
theorem dX8_isShape_7 : decode cX8_isShape 7 = .ok (.isub, 1) := by decide +kernel
theorem dX8_isShape_8 : decode cX8_isShape 8 = .ok (.invokestatic 144, 3) := by decide +kernel
theorem dX8_isShape_11 : decode cX8_isShape 11 = .ok (.ireturn, 1) := by decide +kernel
theorem dX8_isAct_0 : decode cX8_isAct 0 = .ok (.iload_n 1, 1) := by decide +kernel
theorem dX8_isAct_1 : decode cX8_isAct 1 = .ok (.iconst 0, 1) := by decide +kernel
theorem dX8_isAct_2 : decode cX8_isAct 2 = .ok (.aload_n 0, 1) := by decide +kernel
theorem dX8_isAct_3 : decode cX8_isAct 3 = .ok (.getfield 151, 3) := by decide +kernel
theorem dX8_isAct_6 : decode cX8_isAct 6 = .ok (.iconst 1, 1) := by decide +kernel
theorem dX8_isAct_7 : decode cX8_isAct 7 = .ok (.isub, 1) := by decide +kernel
theorem dX8_isAct_8 : decode cX8_isAct 8 = .ok (.invokestatic 144, 3) := by decide +kernel
theorem dX8_isAct_11 : decode cX8_isAct 11 = .ok (.ireturn, 1) := by decide +kernel
theorem dX8_isEdition_0 : decode cX8_isEdition 0 = .ok (.iload_n 1, 1) := by decide +kernel
theorem dX8_isEdition_1 : decode cX8_isEdition 1 = .ok (.iconst 0, 1) := by decide +kernel
theorem dX8_isEdition_2 : decode cX8_isEdition 2 = .ok (.aload_n 0, 1) := by decide +kernel
theorem dX8_isEdition_3 : decode cX8_isEdition 3 = .ok (.getfield 154, 3) := by decide +kernel
theorem dX8_isEdition_6 : decode cX8_isEdition 6 = .ok (.iconst 1, 1) := by decide +kernel
theorem dX8_isEdition_7 : decode cX8_isEdition 7 = .ok (.isub, 1) := by decide +kernel
theorem dX8_isEdition_8 : decode cX8_isEdition 8 = .ok (.invokestatic 144, 3) := by decide +kernel
theorem dX8_isEdition_11 : decode cX8_isEdition 11 = .ok (.ireturn, 1) := by decide +kernel
theorem dX8_isCopy_0 : decode cX8_isCopy 0 = .ok (.aload_n 0, 1) := by decide +kernel
theorem dX8_isCopy_1 : decode cX8_isCopy 1 = .ok (.iload_n 1, 1) := by decide +kernel
theorem dX8_isCopy_2 : decode cX8_isCopy 2 = .ok (.invokevirtual 157, 3) := by decide +kernel
theorem dX8_isCopy_5 : decode cX8_isCopy 5 = .ok (.ifCond .eq 35, 3) := by decide +kernel
theorem dX8_isCopy_8 : decode cX8_isCopy 8 = .ok (.iload_n 2, 1) := by decide +kernel
theorem dX8_isCopy_9 : decode cX8_isCopy 9 = .ok (.iconst 0, 1) := by decide +kernel
theorem dX8_isCopy_10 : decode cX8_isCopy 10 = .ok (.aload_n 0, 1) := by decide +kernel
theorem dX8_isCopy_11 : decode cX8_isCopy 11 = .ok (.getfield 89, 3) := by decide +kernel
theorem dX8_isCopy_14 : decode cX8_isCopy 14 = .ok (.aload_n 0, 1) := by decide +kernel
theorem dX8_isCopy_15 : decode cX8_isCopy 15 = .ok (.iload_n 1, 1) := by decide +kernel
theorem dX8_isCopy_16 : decode cX8_isCopy 16 = .ok (.invokevirtual 157, 3) := by decide +kernel
theorem dX8_isCopy_19 : decode cX8_isCopy 19 = .ok (.ifCond .eq 7, 3) := by decide +kernel
theorem dX8_isCopy_22 : decode cX8_isCopy 22 = .ok (.iload_n 1, 1) := by decide +kernel
theorem dX8_isCopy_23 : decode cX8_isCopy 23 = .ok (.goto 4, 3) := by decide +kernel
theorem dX8_isCopy_26 : decode cX8_isCopy 26 = .ok (.iconst 0, 1) := by decide +kernel
theorem dX8_isCopy_27 : decode cX8_isCopy 27 = .ok (.iaload, 1) := by decide +kernel
theorem dX8_isCopy_28 : decode cX8_isCopy 28 = .ok (.iconst 1, 1) := by decide +kernel
theorem dX8_isCopy_29 : decode cX8_isCopy 29 = .ok (.isub, 1) := by decide +kernel
theorem dX8_isCopy_30 : decode cX8_isCopy 30 = .ok (.invokestatic 144, 3) := by decide +kernel
theorem dX8_isCopy_33 : decode cX8_isCopy 33 = .ok (.ifCond .eq 7, 3) := by decide +kernel
theorem dX8_isCopy_36 : decode cX8_isCopy 36 = .ok (.iconst 1, 1) := by decide +kernel
theorem dX8_isCopy_37 : decode cX8_isCopy 37 = .ok (.goto 4, 3) := by decide +kernel
theorem dX8_isCopy_40 : decode cX8_isCopy 40 = .ok (.iconst 0, 1) := by decide +kernel
theorem dX8_isCopy_41 : decode cX8_isCopy 41 = .ok (.ireturn, 1) := by decide +kernel
theorem dX8_takeOut_0 : decode cX8_takeOut 0 = .ok (.iconst 0, 1) := by decide +kernel
theorem dX8_takeOut_1 : decode cX8_takeOut 1 = .ok (.istore_n 2, 1) := by decide +kernel
theorem dX8_takeOut_2 : decode cX8_takeOut 2 = .ok (.iconst 0, 1) := by decide +kernel
theorem dX8_takeOut_3 : decode cX8_takeOut 3 = .ok (.istore_n 3, 1) := by decide +kernel
theorem dX8_takeOut_4 : decode cX8_takeOut 4 = .ok (.iload_n 3, 1) := by decide +kernel
theorem dX8_takeOut_5 : decode cX8_takeOut 5 = .ok (.aload_n 0, 1) := by decide +kernel
theorem dX8_takeOut_6 : decode cX8_takeOut 6 = .ok (.getfield 161, 3) := by decide +kernel
theorem dX8_takeOut_9 : decode cX8_takeOut 9 = .ok (.if_icmp .ge 39, 3) := by decide +kernel
theorem dX8_takeOut_12 : decode cX8_takeOut 12 = .ok (.aload_n 0, 1) := by decide +kernel
theorem dX8_takeOut_13 : decode cX8_takeOut 13 = .ok (.getfield 56, 3) := by decide +kernel
theorem dX8_takeOut_16 : decode cX8_takeOut 16 = .ok (.iload_n 2, 1) := by decide +kernel
theorem dX8_takeOut_17 : decode cX8_takeOut 17 = .ok (.aload_n 0, 1) := by decide +kernel
theorem dX8_takeOut_18 : decode cX8_takeOut 18 = .ok (.getfield 56, 3) := by decide +kernel
theorem dX8_takeOut_21 : decode cX8_takeOut 21 = .ok (.iload_n 3, 1) := by decide +kernel
theorem dX8_takeOut_22 : decode cX8_takeOut 22 = .ok (.iaload, 1) := by decide +kernel
theorem dX8_takeOut_23 : decode cX8_takeOut 23 = .ok (.iastore, 1) := by decide +kernel
theorem dX8_takeOut_24 : decode cX8_takeOut 24 = .ok (.iload_n 2, 1) := by decide +kernel
theorem dX8_takeOut_25 : decode cX8_takeOut 25 = .ok (.aload_n 0, 1) := by decide +kernel
theorem dX8_takeOut_26 : decode cX8_takeOut 26 = .ok (.getfield 56, 3) := by decide +kernel
theorem dX8_takeOut_29 : decode cX8_takeOut 29 = .ok (.iload_n 3, 1) := by decide +kernel
theorem dX8_takeOut_30 : decode cX8_takeOut 30 = .ok (.iaload, 1) := by decide +kernel
theorem dX8_takeOut_31 : decode cX8_takeOut 31 = .ok (.iload_n 1, 1) := by decide +kernel
theorem dX8_takeOut_32 : decode cX8_takeOut 32 = .ok (.if_icmp .ne 7, 3) := by decide +kernel
theorem dX8_takeOut_35 : decode cX8_takeOut 35 = .ok (.iconst 0, 1) := by decide +kernel
theorem dX8_takeOut_36 : decode cX8_takeOut 36 = .ok (.goto 4, 3) := by decide +kernel
theorem dX8_takeOut_39 : decode cX8_takeOut 39 = .ok (.iconst 1, 1) := by decide +kernel
theorem dX8_takeOut_40 : decode cX8_takeOut 40 = .ok (.iadd, 1) := by decide +kernel
theorem dX8_takeOut_41 : decode cX8_takeOut 41 = .ok (.istore_n 2, 1) := by decide +kernel
theorem dX8_takeOut_42 : decode cX8_takeOut 42 = .ok (.iinc 3 1, 3) := by decide +kernel
theorem dX8_takeOut_45 : decode cX8_takeOut 45 = .ok (.goto (-41), 3) := by decide +kernel
theorem dX8_takeOut_48 : decode cX8_takeOut 48 = .ok (.aload_n 0, 1) := by decide +kernel
theorem dX8_takeOut_49 : decode cX8_takeOut 49 = .ok (.iload_n 2, 1) := by decide +kernel
theorem dX8_takeOut_50 : decode cX8_takeOut 50 = .ok (.putfield 161, 3) := by decide +kernel
theorem dX8_takeOut_53 : decode cX8_takeOut 53 = .ok (.return_, 1) := by decide +kernel
theorem dX8_putIn_0 : decode cX8_putIn 0 = .ok (.aload_n 0, 1) := by decide +kernel
theorem dX8_putIn_1 : decode cX8_putIn 1 = .ok (.getfield 161, 3) := by decide +kernel
theorem dX8_putIn_4 : decode cX8_putIn 4 = .ok (.istore_n 3, 1) := by decide +kernel
theorem dX8_putIn_5 : decode cX8_putIn 5 = .ok (.iload_n 3, 1) := by decide +kernel
theorem dX8_putIn_6 : decode cX8_putIn 6 = .ok (.ifCond .le 27, 3) := by decide +kernel
theorem dX8_putIn_9 : decode cX8_putIn 9 = .ok (.iload_n 2, 1) := by decide +kernel
theorem dX8_putIn_10 : decode cX8_putIn 10 = .ok (.ifCond .ne 23, 3) := by decide +kernel
theorem dX8_putIn_13 : decode cX8_putIn 13 = .ok (.aload_n 0, 1) := by decide +kernel
theorem dX8_putIn_14 : decode cX8_putIn 14 = .ok (.getfield 56, 3) := by decide +kernel
theorem dX8_putIn_17 : decode cX8_putIn 17 = .ok (.iload_n 3, 1) := by decide +kernel
theorem dX8_putIn_18 : decode cX8_putIn 18 = .ok (.aload_n 0, 1) := by decide +kernel
theorem dX8_putIn_19 : decode cX8_putIn 19 = .ok (.getfield 56, 3) := by decide +kernel
theorem dX8_putIn_22 : decode cX8_putIn 22 = .ok (.iload_n 3, 1) := by decide +kernel
theorem dX8_putIn_23 : decode cX8_putIn 23 = .ok (.iconst 1, 1) := by decide +kernel
theorem dX8_putIn_24 : decode cX8_putIn 24 = .ok (.isub, 1) := by decide +kernel
theorem dX8_putIn_25 : decode cX8_putIn 25 = .ok (.iaload, 1) := by decide +kernel
theorem dX8_putIn_26 : decode cX8_putIn 26 = .ok (.iastore, 1) := by decide +kernel
theorem dX8_putIn_27 : decode cX8_putIn 27 = .ok (.iinc 3 (-1), 3) := by decide +kernel
theorem dX8_putIn_30 : decode cX8_putIn 30 = .ok (.goto (-25), 3) := by decide +kernel
theorem dX8_putIn_33 : decode cX8_putIn 33 = .ok (.aload_n 0, 1) := by decide +kernel
theorem dX8_putIn_34 : decode cX8_putIn 34 = .ok (.getfield 56, 3) := by decide +kernel
theorem dX8_putIn_37 : decode cX8_putIn 37 = .ok (.iload_n 2, 1) := by decide +kernel
theorem dX8_putIn_38 : decode cX8_putIn 38 = .ok (.ifCond .eq 10, 3) := by decide +kernel
theorem dX8_putIn_41 : decode cX8_putIn 41 = .ok (.aload_n 0, 1) := by decide +kernel
theorem dX8_putIn_42 : decode cX8_putIn 42 = .ok (.getfield 161, 3) := by decide +kernel
theorem dX8_putIn_45 : decode cX8_putIn 45 = .ok (.goto 4, 3) := by decide +kernel
theorem dX8_putIn_48 : decode cX8_putIn 48 = .ok (.iconst 0, 1) := by decide +kernel
theorem dX8_putIn_49 : decode cX8_putIn 49 = .ok (.iload_n 1, 1) := by decide +kernel
theorem dX8_putIn_50 : decode cX8_putIn 50 = .ok (.iastore, 1) := by decide +kernel
theorem dX8_putIn_51 : decode cX8_putIn 51 = .ok (.aload_n 0, 1) := by decide +kernel
theorem dX8_putIn_52 : decode cX8_putIn 52 = .ok (.dup, 1) := by decide +kernel
theorem dX8_putIn_53 : decode cX8_putIn 53 = .ok (.getfield 161, 3) := by decide +kernel
theorem dX8_putIn_56 : decode cX8_putIn 56 = .ok (.iconst 1, 1) := by decide +kernel
theorem dX8_putIn_57 : decode cX8_putIn 57 = .ok (.iadd, 1) := by decide +kernel
theorem dX8_putIn_58 : decode cX8_putIn 58 = .ok (.putfield 161, 3) := by decide +kernel
theorem dX8_putIn_61 : decode cX8_putIn 61 = .ok (.return_, 1) := by decide +kernel
theorem dX8_freeGroup_0 : decode cX8_freeGroup 0 = .ok (.iconst 0, 1) := by decide +kernel
theorem dX8_freeGroup_1 : decode cX8_freeGroup 1 = .ok (.istore_n 1, 1) := by decide +kernel
theorem dX8_freeGroup_2 : decode cX8_freeGroup 2 = .ok (.iconst 0, 1) := by decide +kernel
theorem dX8_freeGroup_3 : decode cX8_freeGroup 3 = .ok (.istore_n 2, 1) := by decide +kernel
theorem dX8_freeGroup_4 : decode cX8_freeGroup 4 = .ok (.iload_n 2, 1) := by decide +kernel
theorem dX8_freeGroup_5 : decode cX8_freeGroup 5 = .ok (.ifCond .ne 65, 3) := by decide +kernel
theorem dX8_freeGroup_8 : decode cX8_freeGroup 8 = .ok (.iconst 1, 1) := by decide +kernel
theorem dX8_freeGroup_9 : decode cX8_freeGroup 9 = .ok (.istore_n 2, 1) := by decide +kernel
theorem dX8_freeGroup_10 : decode cX8_freeGroup 10 = .ok (.iconst 0, 1) := by decide +kernel
theorem dX8_freeGroup_11 : decode cX8_freeGroup 11 = .ok (.istore_n 3, 1) := by decide +kernel
theorem dX8_freeGroup_12 : decode cX8_freeGroup 12 = .ok (.iload_n 3, 1) := by decide +kernel
theorem dX8_freeGroup_13 : decode cX8_freeGroup 13 = .ok (.aload_n 0, 1) := by decide +kernel
theorem dX8_freeGroup_14 : decode cX8_freeGroup 14 = .ok (.getfield 148, 3) := by decide +kernel
theorem dX8_freeGroup_17 : decode cX8_freeGroup 17 = .ok (.if_icmp .ge 38, 3) := by decide +kernel
theorem dX8_freeGroup_20 : decode cX8_freeGroup 20 = .ok (.iload_n 2, 1) := by decide +kernel
theorem dX8_freeGroup_21 : decode cX8_freeGroup 21 = .ok (.ifCond .eq 26, 3) := by decide +kernel
theorem dX8_freeGroup_24 : decode cX8_freeGroup 24 = .ok (.aload_n 0, 1) := by decide +kernel
theorem dX8_freeGroup_25 : decode cX8_freeGroup 25 = .ok (.getfield 59, 3) := by decide +kernel
theorem dX8_freeGroup_28 : decode cX8_freeGroup 28 = .ok (.iload_n 3, 1) := by decide +kernel
theorem dX8_freeGroup_29 : decode cX8_freeGroup 29 = .ok (.baload, 1) := by decide +kernel
theorem dX8_freeGroup_30 : decode cX8_freeGroup 30 = .ok (.ifCond .eq 13, 3) := by decide +kernel
theorem dX8_freeGroup_33 : decode cX8_freeGroup 33 = .ok (.aload_n 0, 1) := by decide +kernel
theorem dX8_freeGroup_34 : decode cX8_freeGroup 34 = .ok (.getfield 71, 3) := by decide +kernel
theorem dX8_freeGroup_37 : decode cX8_freeGroup 37 = .ok (.iload_n 3, 1) := by decide +kernel
theorem dX8_freeGroup_38 : decode cX8_freeGroup 38 = .ok (.iaload, 1) := by decide +kernel
theorem dX8_freeGroup_39 : decode cX8_freeGroup 39 = .ok (.iload_n 1, 1) := by decide +kernel
theorem dX8_freeGroup_40 : decode cX8_freeGroup 40 = .ok (.if_icmp .eq 7, 3) := by decide +kernel
theorem dX8_freeGroup_43 : decode cX8_freeGroup 43 = .ok (.iconst 1, 1) := by decide +kernel
theorem dX8_freeGroup_44 : decode cX8_freeGroup 44 = .ok (.goto 4, 3) := by decide +kernel
theorem dX8_freeGroup_47 : decode cX8_freeGroup 47 = .ok (.iconst 0, 1) := by decide +kernel
theorem dX8_freeGroup_48 : decode cX8_freeGroup 48 = .ok (.istore_n 2, 1) := by decide +kernel
theorem dX8_freeGroup_49 : decode cX8_freeGroup 49 = .ok (.iinc 3 1, 3) := by decide +kernel
theorem dX8_freeGroup_52 : decode cX8_freeGroup 52 = .ok (.goto (-40), 3) := by decide +kernel
theorem dX8_freeGroup_55 : decode cX8_freeGroup 55 = .ok (.iload_n 1, 1) := by decide +kernel
theorem dX8_freeGroup_56 : decode cX8_freeGroup 56 = .ok (.iload_n 2, 1) := by decide +kernel
theorem dX8_freeGroup_57 : decode cX8_freeGroup 57 = .ok (.ifCond .eq 7, 3) := by decide +kernel
theorem dX8_freeGroup_60 : decode cX8_freeGroup 60 = .ok (.iconst 0, 1) := by decide +kernel
theorem dX8_freeGroup_61 : decode cX8_freeGroup 61 = .ok (.goto 4, 3) := by decide +kernel
theorem dX8_freeGroup_64 : decode cX8_freeGroup 64 = .ok (.iconst 1, 1) := by decide +kernel
theorem dX8_freeGroup_65 : decode cX8_freeGroup 65 = .ok (.iadd, 1) := by decide +kernel
theorem dX8_freeGroup_66 : decode cX8_freeGroup 66 = .ok (.istore_n 1, 1) := by decide +kernel
theorem dX8_freeGroup_67 : decode cX8_freeGroup 67 = .ok (.goto (-63), 3) := by decide +kernel
theorem dX8_freeGroup_70 : decode cX8_freeGroup 70 = .ok (.iload_n 1, 1) := by decide +kernel
theorem dX8_freeGroup_71 : decode cX8_freeGroup 71 = .ok (.ireturn, 1) := by decide +kernel
theorem dX8_comes_0 : decode cX8_comes 0 = .ok (.aload_n 0, 1) := by decide +kernel
theorem dX8_comes_1 : decode cX8_comes 1 = .ok (.getfield 59, 3) := by decide +kernel
theorem dX8_comes_4 : decode cX8_comes 4 = .ok (.iload_n 1, 1) := by decide +kernel
theorem dX8_comes_5 : decode cX8_comes 5 = .ok (.iconst 0, 1) := by decide +kernel
theorem dX8_comes_6 : decode cX8_comes 6 = .ok (.bastore, 1) := by decide +kernel
theorem dX8_comes_7 : decode cX8_comes 7 = .ok (.aload_n 0, 1) := by decide +kernel
theorem dX8_comes_8 : decode cX8_comes 8 = .ok (.getfield 71, 3) := by decide +kernel
theorem dX8_comes_11 : decode cX8_comes 11 = .ok (.iload_n 1, 1) := by decide +kernel
theorem dX8_comes_12 : decode cX8_comes 12 = .ok (.aload_n 0, 1) := by decide +kernel
theorem dX8_comes_13 : decode cX8_comes 13 = .ok (.invokevirtual 164, 3) := by decide +kernel
theorem dX8_comes_16 : decode cX8_comes 16 = .ok (.iastore, 1) := by decide +kernel
theorem dX8_comes_17 : decode cX8_comes 17 = .ok (.aload_n 0, 1) := by decide +kernel
theorem dX8_comes_18 : decode cX8_comes 18 = .ok (.getfield 59, 3) := by decide +kernel
theorem dX8_comes_21 : decode cX8_comes 21 = .ok (.iload_n 1, 1) := by decide +kernel
theorem dX8_comes_22 : decode cX8_comes 22 = .ok (.iconst 1, 1) := by decide +kernel
theorem dX8_comes_23 : decode cX8_comes 23 = .ok (.bastore, 1) := by decide +kernel
theorem dX8_comes_24 : decode cX8_comes 24 = .ok (.aload_n 0, 1) := by decide +kernel
theorem dX8_comes_25 : decode cX8_comes 25 = .ok (.getfield 62, 3) := by decide +kernel
theorem dX8_comes_28 : decode cX8_comes 28 = .ok (.iload_n 1, 1) := by decide +kernel
theorem dX8_comes_29 : decode cX8_comes 29 = .ok (.aload_n 0, 1) := by decide +kernel
theorem dX8_comes_30 : decode cX8_comes 30 = .ok (.getfield 44, 3) := by decide +kernel
theorem dX8_comes_33 : decode cX8_comes 33 = .ok (.iload_n 1, 1) := by decide +kernel
theorem dX8_comes_34 : decode cX8_comes 34 = .ok (.iaload, 1) := by decide +kernel
theorem dX8_comes_35 : decode cX8_comes 35 = .ok (.iastore, 1) := by decide +kernel
theorem dX8_comes_36 : decode cX8_comes 36 = .ok (.aload_n 0, 1) := by decide +kernel
theorem dX8_comes_37 : decode cX8_comes 37 = .ok (.getfield 65, 3) := by decide +kernel
theorem dX8_comes_40 : decode cX8_comes 40 = .ok (.iload_n 1, 1) := by decide +kernel
theorem dX8_comes_41 : decode cX8_comes 41 = .ok (.aload_n 0, 1) := by decide +kernel
theorem dX8_comes_42 : decode cX8_comes 42 = .ok (.getfield 47, 3) := by decide +kernel
theorem dX8_comes_45 : decode cX8_comes 45 = .ok (.iload_n 1, 1) := by decide +kernel
theorem dX8_comes_46 : decode cX8_comes 46 = .ok (.iaload, 1) := by decide +kernel
theorem dX8_comes_47 : decode cX8_comes 47 = .ok (.iastore, 1) := by decide +kernel
theorem dX8_comes_48 : decode cX8_comes 48 = .ok (.aload_n 0, 1) := by decide +kernel
theorem dX8_comes_49 : decode cX8_comes 49 = .ok (.getfield 68, 3) := by decide +kernel
theorem dX8_comes_52 : decode cX8_comes 52 = .ok (.iload_n 1, 1) := by decide +kernel
theorem dX8_comes_53 : decode cX8_comes 53 = .ok (.aload_n 0, 1) := by decide +kernel
theorem dX8_comes_54 : decode cX8_comes 54 = .ok (.getfield 50, 3) := by decide +kernel
theorem dX8_comes_57 : decode cX8_comes 57 = .ok (.iload_n 1, 1) := by decide +kernel
theorem dX8_comes_58 : decode cX8_comes 58 = .ok (.iaload, 1) := by decide +kernel
theorem dX8_comes_59 : decode cX8_comes 59 = .ok (.iastore, 1) := by decide +kernel
theorem dX8_comes_60 : decode cX8_comes 60 = .ok (.aload_n 0, 1) := by decide +kernel
theorem dX8_comes_61 : decode cX8_comes 61 = .ok (.iload_n 1, 1) := by decide +kernel
theorem dX8_comes_62 : decode cX8_comes 62 = .ok (.iconst 1, 1) := by decide +kernel
theorem dX8_comes_63 : decode cX8_comes 63 = .ok (.invokevirtual 168, 3) := by decide +kernel
theorem dX8_comes_66 : decode cX8_comes 66 = .ok (.return_, 1) := by decide +kernel
theorem dX8_moves_0 : decode cX8_moves 0 = .ok (.iconst 0, 1) := by decide +kernel
theorem dX8_moves_1 : decode cX8_moves 1 = .ok (.istore 4, 2) := by decide +kernel
theorem dX8_moves_3 : decode cX8_moves 3 = .ok (.iload 4, 2) := by decide +kernel
theorem dX8_moves_5 : decode cX8_moves 5 = .ok (.aload_n 0, 1) := by decide +kernel
theorem dX8_moves_6 : decode cX8_moves 6 = .ok (.getfield 148, 3) := by decide +kernel
theorem dX8_moves_9 : decode cX8_moves 9 = .ok (.if_icmp .ge 57, 3) := by decide +kernel
theorem dX8_moves_12 : decode cX8_moves 12 = .ok (.aload_n 0, 1) := by decide +kernel
theorem dX8_moves_13 : decode cX8_moves 13 = .ok (.getfield 59, 3) := by decide +kernel
theorem dX8_moves_16 : decode cX8_moves 16 = .ok (.iload 4, 2) := by decide +kernel
theorem dX8_moves_18 : decode cX8_moves 18 = .ok (.baload, 1) := by decide +kernel
theorem dX8_moves_19 : decode cX8_moves 19 = .ok (.ifCond .eq 41, 3) := by decide +kernel
theorem dX8_moves_22 : decode cX8_moves 22 = .ok (.aload_n 0, 1) := by decide +kernel
theorem dX8_moves_23 : decode cX8_moves 23 = .ok (.getfield 71, 3) := by decide +kernel
theorem dX8_moves_26 : decode cX8_moves 26 = .ok (.iload 4, 2) := by decide +kernel
theorem dX8_moves_28 : decode cX8_moves 28 = .ok (.iaload, 1) := by decide +kernel
theorem dX8_moves_29 : decode cX8_moves 29 = .ok (.aload_n 0, 1) := by decide +kernel
theorem dX8_moves_30 : decode cX8_moves 30 = .ok (.getfield 71, 3) := by decide +kernel
theorem dX8_moves_33 : decode cX8_moves 33 = .ok (.iload_n 1, 1) := by decide +kernel
theorem dX8_moves_34 : decode cX8_moves 34 = .ok (.iaload, 1) := by decide +kernel
theorem dX8_moves_35 : decode cX8_moves 35 = .ok (.if_icmp .ne 25, 3) := by decide +kernel
theorem dX8_moves_38 : decode cX8_moves 38 = .ok (.aload_n 0, 1) := by decide +kernel
theorem dX8_moves_39 : decode cX8_moves 39 = .ok (.getfield 62, 3) := by decide +kernel
theorem dX8_moves_42 : decode cX8_moves 42 = .ok (.iload 4, 2) := by decide +kernel
theorem dX8_moves_44 : decode cX8_moves 44 = .ok (.dup2, 1) := by decide +kernel
theorem dX8_moves_45 : decode cX8_moves 45 = .ok (.iaload, 1) := by decide +kernel
theorem dX8_moves_46 : decode cX8_moves 46 = .ok (.iload_n 2, 1) := by decide +kernel
theorem dX8_moves_47 : decode cX8_moves 47 = .ok (.iadd, 1) := by decide +kernel
theorem dX8_moves_48 : decode cX8_moves 48 = .ok (.iastore, 1) := by decide +kernel
theorem dX8_moves_49 : decode cX8_moves 49 = .ok (.aload_n 0, 1) := by decide +kernel
theorem dX8_moves_50 : decode cX8_moves 50 = .ok (.getfield 65, 3) := by decide +kernel
theorem dX8_moves_53 : decode cX8_moves 53 = .ok (.iload 4, 2) := by decide +kernel
theorem dX8_moves_55 : decode cX8_moves 55 = .ok (.dup2, 1) := by decide +kernel
theorem dX8_moves_56 : decode cX8_moves 56 = .ok (.iaload, 1) := by decide +kernel
theorem dX8_moves_57 : decode cX8_moves 57 = .ok (.iload_n 3, 1) := by decide +kernel
theorem dX8_moves_58 : decode cX8_moves 58 = .ok (.iadd, 1) := by decide +kernel
theorem dX8_moves_59 : decode cX8_moves 59 = .ok (.iastore, 1) := by decide +kernel
theorem dX8_moves_60 : decode cX8_moves 60 = .ok (.iinc 4 1, 3) := by decide +kernel
theorem dX8_moves_63 : decode cX8_moves 63 = .ok (.goto (-60), 3) := by decide +kernel
theorem dX8_moves_66 : decode cX8_moves 66 = .ok (.return_, 1) := by decide +kernel
theorem dX8_joins_0 : decode cX8_joins 0 = .ok (.aload_n 0, 1) := by decide +kernel
theorem dX8_joins_1 : decode cX8_joins 1 = .ok (.getfield 71, 3) := by decide +kernel
theorem dX8_joins_4 : decode cX8_joins 4 = .ok (.iload_n 2, 1) := by decide +kernel
theorem dX8_joins_5 : decode cX8_joins 5 = .ok (.iaload, 1) := by decide +kernel
theorem dX8_joins_6 : decode cX8_joins 6 = .ok (.istore_n 3, 1) := by decide +kernel
theorem dX8_joins_7 : decode cX8_joins 7 = .ok (.iconst 0, 1) := by decide +kernel
theorem dX8_joins_8 : decode cX8_joins 8 = .ok (.istore 4, 2) := by decide +kernel
theorem dX8_joins_10 : decode cX8_joins 10 = .ok (.iload 4, 2) := by decide +kernel
theorem dX8_joins_12 : decode cX8_joins 12 = .ok (.aload_n 0, 1) := by decide +kernel
theorem dX8_joins_13 : decode cX8_joins 13 = .ok (.getfield 148, 3) := by decide +kernel
theorem dX8_joins_16 : decode cX8_joins 16 = .ok (.if_icmp .ge 53, 3) := by decide +kernel
theorem dX8_joins_19 : decode cX8_joins 19 = .ok (.aload_n 0, 1) := by decide +kernel
theorem dX8_joins_20 : decode cX8_joins 20 = .ok (.getfield 71, 3) := by decide +kernel
theorem dX8_joins_23 : decode cX8_joins 23 = .ok (.iload 4, 2) := by decide +kernel
theorem dX8_joins_25 : decode cX8_joins 25 = .ok (.aload_n 0, 1) := by decide +kernel
theorem dX8_joins_26 : decode cX8_joins 26 = .ok (.getfield 59, 3) := by decide +kernel
theorem dX8_joins_29 : decode cX8_joins 29 = .ok (.iload 4, 2) := by decide +kernel
theorem dX8_joins_31 : decode cX8_joins 31 = .ok (.baload, 1) := by decide +kernel
theorem dX8_joins_32 : decode cX8_joins 32 = .ok (.ifCond .eq 23, 3) := by decide +kernel
theorem dX8_joins_35 : decode cX8_joins 35 = .ok (.aload_n 0, 1) := by decide +kernel
theorem dX8_joins_36 : decode cX8_joins 36 = .ok (.getfield 71, 3) := by decide +kernel
theorem dX8_joins_39 : decode cX8_joins 39 = .ok (.iload 4, 2) := by decide +kernel
theorem dX8_joins_41 : decode cX8_joins 41 = .ok (.iaload, 1) := by decide +kernel
theorem dX8_joins_42 : decode cX8_joins 42 = .ok (.iload_n 3, 1) := by decide +kernel
theorem dX8_joins_43 : decode cX8_joins 43 = .ok (.if_icmp .ne 12, 3) := by decide +kernel
theorem dX8_joins_46 : decode cX8_joins 46 = .ok (.aload_n 0, 1) := by decide +kernel
theorem dX8_joins_47 : decode cX8_joins 47 = .ok (.getfield 71, 3) := by decide +kernel
theorem dX8_joins_50 : decode cX8_joins 50 = .ok (.iload_n 1, 1) := by decide +kernel
theorem dX8_joins_51 : decode cX8_joins 51 = .ok (.iaload, 1) := by decide +kernel
theorem dX8_joins_52 : decode cX8_joins 52 = .ok (.goto 10, 3) := by decide +kernel
theorem dX8_joins_55 : decode cX8_joins 55 = .ok (.aload_n 0, 1) := by decide +kernel
theorem dX8_joins_56 : decode cX8_joins 56 = .ok (.getfield 71, 3) := by decide +kernel
theorem dX8_joins_59 : decode cX8_joins 59 = .ok (.iload 4, 2) := by decide +kernel
theorem dX8_joins_61 : decode cX8_joins 61 = .ok (.iaload, 1) := by decide +kernel
theorem dX8_joins_62 : decode cX8_joins 62 = .ok (.iastore, 1) := by decide +kernel
theorem dX8_joins_63 : decode cX8_joins 63 = .ok (.iinc 4 1, 3) := by decide +kernel
theorem dX8_joins_66 : decode cX8_joins 66 = .ok (.goto (-56), 3) := by decide +kernel
theorem dX8_joins_69 : decode cX8_joins 69 = .ok (.return_, 1) := by decide +kernel
theorem dX8_does_0 : decode cX8_does 0 = .ok (.aload_n 0, 1) := by decide +kernel
theorem dX8_does_1 : decode cX8_does 1 = .ok (.getfield 16, 3) := by decide +kernel
theorem dX8_does_4 : decode cX8_does 4 = .ok (.iload_n 1, 1) := by decide +kernel
theorem dX8_does_5 : decode cX8_does 5 = .ok (.iaload, 1) := by decide +kernel
theorem dX8_does_6 : decode cX8_does 6 = .ok (.istore_n 2, 1) := by decide +kernel
theorem dX8_does_7 : decode cX8_does 7 = .ok (.aload_n 0, 1) := by decide +kernel
theorem dX8_does_8 : decode cX8_does 8 = .ok (.getfield 7, 3) := by decide +kernel
theorem dX8_does_11 : decode cX8_does 11 = .ok (.iload_n 1, 1) := by decide +kernel
theorem dX8_does_12 : decode cX8_does 12 = .ok (.iaload, 1) := by decide +kernel
theorem dX8_does_13 : decode cX8_does 13 = .ok (.ifCond .ne 11, 3) := by decide +kernel
theorem dX8_does_16 : decode cX8_does 16 = .ok (.aload_n 0, 1) := by decide +kernel
theorem dX8_does_17 : decode cX8_does 17 = .ok (.iload_n 2, 1) := by decide +kernel
theorem dX8_does_18 : decode cX8_does 18 = .ok (.invokevirtual 172, 3) := by decide +kernel
theorem dX8_does_21 : decode cX8_does 21 = .ok (.goto 209, 3) := by decide +kernel
theorem dX8_does_24 : decode cX8_does 24 = .ok (.aload_n 0, 1) := by decide +kernel
theorem dX8_does_25 : decode cX8_does 25 = .ok (.getfield 59, 3) := by decide +kernel
theorem dX8_does_28 : decode cX8_does 28 = .ok (.iload_n 2, 1) := by decide +kernel
theorem dX8_does_29 : decode cX8_does 29 = .ok (.baload, 1) := by decide +kernel
theorem dX8_does_30 : decode cX8_does 30 = .ok (.ifCond .eq 200, 3) := by decide +kernel
theorem dX8_does_33 : decode cX8_does 33 = .ok (.aload_n 0, 1) := by decide +kernel
theorem dX8_does_34 : decode cX8_does 34 = .ok (.getfield 7, 3) := by decide +kernel
theorem dX8_does_37 : decode cX8_does 37 = .ok (.iload_n 1, 1) := by decide +kernel
theorem dX8_does_38 : decode cX8_does 38 = .ok (.iaload, 1) := by decide +kernel
theorem dX8_does_39 : decode cX8_does 39 = .ok (.iconst 5, 1) := by decide +kernel
theorem dX8_does_40 : decode cX8_does 40 = .ok (.if_icmp .ne 17, 3) := by decide +kernel
theorem dX8_does_43 : decode cX8_does 43 = .ok (.aload_n 0, 1) := by decide +kernel
theorem dX8_does_44 : decode cX8_does 44 = .ok (.getfield 59, 3) := by decide +kernel
theorem dX8_does_47 : decode cX8_does 47 = .ok (.aload_n 0, 1) := by decide +kernel
theorem dX8_does_48 : decode cX8_does 48 = .ok (.getfield 19, 3) := by decide +kernel
theorem dX8_does_51 : decode cX8_does 51 = .ok (.iload_n 1, 1) := by decide +kernel
theorem dX8_does_52 : decode cX8_does 52 = .ok (.iaload, 1) := by decide +kernel
theorem dX8_does_53 : decode cX8_does 53 = .ok (.baload, 1) := by decide +kernel
theorem dX8_does_54 : decode cX8_does 54 = .ok (.ifCond .eq 176, 3) := by decide +kernel
theorem dX8_does_57 : decode cX8_does 57 = .ok (.aload_n 0, 1) := by decide +kernel
theorem dX8_does_58 : decode cX8_does 58 = .ok (.getfield 7, 3) := by decide +kernel
theorem dX8_does_61 : decode cX8_does 61 = .ok (.iload_n 1, 1) := by decide +kernel
theorem dX8_does_62 : decode cX8_does 62 = .ok (.iaload, 1) := by decide +kernel
theorem dX8_does_63 : decode cX8_does 63 = .ok (.iconst 1, 1) := by decide +kernel
theorem dX8_does_64 : decode cX8_does 64 = .ok (.if_icmp .ne 23, 3) := by decide +kernel
theorem dX8_does_67 : decode cX8_does 67 = .ok (.aload_n 0, 1) := by decide +kernel
theorem dX8_does_68 : decode cX8_does 68 = .ok (.iload_n 2, 1) := by decide +kernel
theorem dX8_does_69 : decode cX8_does 69 = .ok (.aload_n 0, 1) := by decide +kernel
theorem dX8_does_70 : decode cX8_does 70 = .ok (.getfield 19, 3) := by decide +kernel
theorem dX8_does_73 : decode cX8_does 73 = .ok (.iload_n 1, 1) := by decide +kernel
theorem dX8_does_74 : decode cX8_does 74 = .ok (.iaload, 1) := by decide +kernel
theorem dX8_does_75 : decode cX8_does 75 = .ok (.aload_n 0, 1) := by decide +kernel
theorem dX8_does_76 : decode cX8_does 76 = .ok (.getfield 22, 3) := by decide +kernel
theorem dX8_does_79 : decode cX8_does 79 = .ok (.iload_n 1, 1) := by decide +kernel
theorem dX8_does_80 : decode cX8_does 80 = .ok (.iaload, 1) := by decide +kernel
theorem dX8_does_81 : decode cX8_does 81 = .ok (.invokevirtual 176, 3) := by decide +kernel
theorem dX8_does_84 : decode cX8_does 84 = .ok (.goto 146, 3) := by decide +kernel
theorem dX8_does_87 : decode cX8_does 87 = .ok (.aload_n 0, 1) := by decide +kernel
theorem dX8_does_88 : decode cX8_does 88 = .ok (.getfield 7, 3) := by decide +kernel
theorem dX8_does_91 : decode cX8_does 91 = .ok (.iload_n 1, 1) := by decide +kernel
theorem dX8_does_92 : decode cX8_does 92 = .ok (.iaload, 1) := by decide +kernel
theorem dX8_does_93 : decode cX8_does 93 = .ok (.iconst 2, 1) := by decide +kernel
theorem dX8_does_94 : decode cX8_does 94 = .ok (.if_icmp .ne 18, 3) := by decide +kernel
theorem dX8_does_97 : decode cX8_does 97 = .ok (.aload_n 0, 1) := by decide +kernel
theorem dX8_does_98 : decode cX8_does 98 = .ok (.getfield 68, 3) := by decide +kernel
theorem dX8_does_101 : decode cX8_does 101 = .ok (.iload_n 2, 1) := by decide +kernel
theorem dX8_does_102 : decode cX8_does 102 = .ok (.aload_n 0, 1) := by decide +kernel
theorem dX8_does_103 : decode cX8_does 103 = .ok (.getfield 19, 3) := by decide +kernel
theorem dX8_does_106 : decode cX8_does 106 = .ok (.iload_n 1, 1) := by decide +kernel
theorem dX8_does_107 : decode cX8_does 107 = .ok (.iaload, 1) := by decide +kernel
theorem dX8_does_108 : decode cX8_does 108 = .ok (.iastore, 1) := by decide +kernel
theorem dX8_does_109 : decode cX8_does 109 = .ok (.goto 121, 3) := by decide +kernel
theorem dX8_does_112 : decode cX8_does 112 = .ok (.aload_n 0, 1) := by decide +kernel
theorem dX8_does_113 : decode cX8_does 113 = .ok (.getfield 7, 3) := by decide +kernel
theorem dX8_does_116 : decode cX8_does 116 = .ok (.iload_n 1, 1) := by decide +kernel
theorem dX8_does_117 : decode cX8_does 117 = .ok (.iaload, 1) := by decide +kernel
theorem dX8_does_118 : decode cX8_does 118 = .ok (.iconst 5, 1) := by decide +kernel
theorem dX8_does_119 : decode cX8_does 119 = .ok (.if_icmp .ne 17, 3) := by decide +kernel
theorem dX8_does_122 : decode cX8_does 122 = .ok (.aload_n 0, 1) := by decide +kernel
theorem dX8_does_123 : decode cX8_does 123 = .ok (.iload_n 2, 1) := by decide +kernel
theorem dX8_does_124 : decode cX8_does 124 = .ok (.aload_n 0, 1) := by decide +kernel
theorem dX8_does_125 : decode cX8_does 125 = .ok (.getfield 19, 3) := by decide +kernel
theorem dX8_does_128 : decode cX8_does 128 = .ok (.iload_n 1, 1) := by decide +kernel
theorem dX8_does_129 : decode cX8_does 129 = .ok (.iaload, 1) := by decide +kernel
theorem dX8_does_130 : decode cX8_does 130 = .ok (.invokevirtual 180, 3) := by decide +kernel
theorem dX8_does_133 : decode cX8_does 133 = .ok (.goto 97, 3) := by decide +kernel
theorem dX8_does_136 : decode cX8_does 136 = .ok (.aload_n 0, 1) := by decide +kernel
theorem dX8_does_137 : decode cX8_does 137 = .ok (.getfield 7, 3) := by decide +kernel
theorem dX8_does_140 : decode cX8_does 140 = .ok (.iload_n 1, 1) := by decide +kernel
theorem dX8_does_141 : decode cX8_does 141 = .ok (.iaload, 1) := by decide +kernel
theorem dX8_does_142 : decode cX8_does 142 = .ok (.bipush 6, 2) := by decide +kernel
theorem dX8_does_144 : decode cX8_does 144 = .ok (.if_icmp .ne 30, 3) := by decide +kernel
theorem dX8_does_147 : decode cX8_does 147 = .ok (.aload_n 0, 1) := by decide +kernel
theorem dX8_does_148 : decode cX8_does 148 = .ok (.getfield 59, 3) := by decide +kernel
theorem dX8_does_151 : decode cX8_does 151 = .ok (.iload_n 2, 1) := by decide +kernel
theorem dX8_does_152 : decode cX8_does 152 = .ok (.iconst 0, 1) := by decide +kernel
theorem dX8_does_153 : decode cX8_does 153 = .ok (.bastore, 1) := by decide +kernel
theorem dX8_does_154 : decode cX8_does 154 = .ok (.aload_n 0, 1) := by decide +kernel
theorem dX8_does_155 : decode cX8_does 155 = .ok (.getfield 71, 3) := by decide +kernel
theorem dX8_does_158 : decode cX8_does 158 = .ok (.iload_n 2, 1) := by decide +kernel
theorem dX8_does_159 : decode cX8_does 159 = .ok (.aload_n 0, 1) := by decide +kernel
theorem dX8_does_160 : decode cX8_does 160 = .ok (.invokevirtual 164, 3) := by decide +kernel
theorem dX8_does_163 : decode cX8_does 163 = .ok (.iastore, 1) := by decide +kernel
theorem dX8_does_164 : decode cX8_does 164 = .ok (.aload_n 0, 1) := by decide +kernel
theorem dX8_does_165 : decode cX8_does 165 = .ok (.getfield 59, 3) := by decide +kernel
theorem dX8_does_168 : decode cX8_does 168 = .ok (.iload_n 2, 1) := by decide +kernel
theorem dX8_does_169 : decode cX8_does 169 = .ok (.iconst 1, 1) := by decide +kernel
theorem dX8_does_170 : decode cX8_does 170 = .ok (.bastore, 1) := by decide +kernel
theorem dX8_does_171 : decode cX8_does 171 = .ok (.goto 59, 3) := by decide +kernel
theorem dX8_does_174 : decode cX8_does 174 = .ok (.aload_n 0, 1) := by decide +kernel
theorem dX8_does_175 : decode cX8_does 175 = .ok (.iload_n 2, 1) := by decide +kernel
theorem dX8_does_176 : decode cX8_does 176 = .ok (.invokevirtual 184, 3) := by decide +kernel
theorem dX8_does_179 : decode cX8_does 179 = .ok (.aload_n 0, 1) := by decide +kernel
theorem dX8_does_180 : decode cX8_does 180 = .ok (.getfield 59, 3) := by decide +kernel
theorem dX8_does_183 : decode cX8_does 183 = .ok (.iload_n 2, 1) := by decide +kernel
theorem dX8_does_184 : decode cX8_does 184 = .ok (.aload_n 0, 1) := by decide +kernel
theorem dX8_does_185 : decode cX8_does 185 = .ok (.getfield 7, 3) := by decide +kernel
theorem dX8_does_188 : decode cX8_does 188 = .ok (.iload_n 1, 1) := by decide +kernel
theorem dX8_does_189 : decode cX8_does 189 = .ok (.iaload, 1) := by decide +kernel
theorem dX8_does_190 : decode cX8_does 190 = .ok (.bipush 7, 2) := by decide +kernel
theorem dX8_does_192 : decode cX8_does 192 = .ok (.if_icmp .eq 7, 3) := by decide +kernel
theorem dX8_does_195 : decode cX8_does 195 = .ok (.iconst 1, 1) := by decide +kernel
theorem dX8_does_196 : decode cX8_does 196 = .ok (.goto 4, 3) := by decide +kernel
theorem dX8_does_199 : decode cX8_does 199 = .ok (.iconst 0, 1) := by decide +kernel
theorem dX8_does_200 : decode cX8_does 200 = .ok (.bastore, 1) := by decide +kernel
theorem dX8_does_201 : decode cX8_does 201 = .ok (.aload_n 0, 1) := by decide +kernel
theorem dX8_does_202 : decode cX8_does 202 = .ok (.getfield 59, 3) := by decide +kernel
theorem dX8_does_205 : decode cX8_does 205 = .ok (.iload_n 2, 1) := by decide +kernel
theorem dX8_does_206 : decode cX8_does 206 = .ok (.baload, 1) := by decide +kernel
theorem dX8_does_207 : decode cX8_does 207 = .ok (.ifCond .eq 23, 3) := by decide +kernel
theorem dX8_does_210 : decode cX8_does 210 = .ok (.aload_n 0, 1) := by decide +kernel
theorem dX8_does_211 : decode cX8_does 211 = .ok (.iload_n 2, 1) := by decide +kernel
theorem dX8_does_212 : decode cX8_does 212 = .ok (.aload_n 0, 1) := by decide +kernel
theorem dX8_does_213 : decode cX8_does 213 = .ok (.getfield 7, 3) := by decide +kernel
theorem dX8_does_216 : decode cX8_does 216 = .ok (.iload_n 1, 1) := by decide +kernel
theorem dX8_does_217 : decode cX8_does 217 = .ok (.iaload, 1) := by decide +kernel
theorem dX8_does_218 : decode cX8_does 218 = .ok (.iconst 3, 1) := by decide +kernel
theorem dX8_does_219 : decode cX8_does 219 = .ok (.if_icmp .ne 7, 3) := by decide +kernel
theorem dX8_does_222 : decode cX8_does 222 = .ok (.iconst 1, 1) := by decide +kernel
theorem dX8_does_223 : decode cX8_does 223 = .ok (.goto 4, 3) := by decide +kernel
theorem dX8_does_226 : decode cX8_does 226 = .ok (.iconst 0, 1) := by decide +kernel
theorem dX8_does_227 : decode cX8_does 227 = .ok (.invokevirtual 168, 3) := by decide +kernel
theorem dX8_does_230 : decode cX8_does 230 = .ok (.return_, 1) := by decide +kernel
theorem dX8_anew_0 : decode cX8_anew 0 = .ok (.aload_n 0, 1) := by decide +kernel
theorem dX8_anew_1 : decode cX8_anew 1 = .ok (.iconst 0, 1) := by decide +kernel
theorem dX8_anew_2 : decode cX8_anew 2 = .ok (.putfield 161, 3) := by decide +kernel
theorem dX8_anew_5 : decode cX8_anew 5 = .ok (.iconst 0, 1) := by decide +kernel
theorem dX8_anew_6 : decode cX8_anew 6 = .ok (.istore_n 1, 1) := by decide +kernel
theorem dX8_anew_7 : decode cX8_anew 7 = .ok (.iload_n 1, 1) := by decide +kernel
theorem dX8_anew_8 : decode cX8_anew 8 = .ok (.aload_n 0, 1) := by decide +kernel
theorem dX8_anew_9 : decode cX8_anew 9 = .ok (.getfield 148, 3) := by decide +kernel
theorem dX8_anew_12 : decode cX8_anew 12 = .ok (.if_icmp .ge 16, 3) := by decide +kernel
theorem dX8_anew_15 : decode cX8_anew 15 = .ok (.aload_n 0, 1) := by decide +kernel
theorem dX8_anew_16 : decode cX8_anew 16 = .ok (.getfield 59, 3) := by decide +kernel
theorem dX8_anew_19 : decode cX8_anew 19 = .ok (.iload_n 1, 1) := by decide +kernel
theorem dX8_anew_20 : decode cX8_anew 20 = .ok (.iconst 0, 1) := by decide +kernel
theorem dX8_anew_21 : decode cX8_anew 21 = .ok (.bastore, 1) := by decide +kernel
theorem dX8_anew_22 : decode cX8_anew 22 = .ok (.iinc 1 1, 3) := by decide +kernel
theorem dX8_anew_25 : decode cX8_anew 25 = .ok (.goto (-18), 3) := by decide +kernel
theorem dX8_anew_28 : decode cX8_anew 28 = .ok (.iconst 0, 1) := by decide +kernel
theorem dX8_anew_29 : decode cX8_anew 29 = .ok (.istore_n 1, 1) := by decide +kernel
theorem dX8_anew_30 : decode cX8_anew 30 = .ok (.iload_n 1, 1) := by decide +kernel
theorem dX8_anew_31 : decode cX8_anew 31 = .ok (.aload_n 0, 1) := by decide +kernel
theorem dX8_anew_32 : decode cX8_anew 32 = .ok (.getfield 151, 3) := by decide +kernel
theorem dX8_anew_35 : decode cX8_anew 35 = .ok (.if_icmp .ge 23, 3) := by decide +kernel
theorem dX8_anew_38 : decode cX8_anew 38 = .ok (.aload_n 0, 1) := by decide +kernel
theorem dX8_anew_39 : decode cX8_anew 39 = .ok (.getfield 25, 3) := by decide +kernel
theorem dX8_anew_42 : decode cX8_anew 42 = .ok (.iload_n 1, 1) := by decide +kernel
theorem dX8_anew_43 : decode cX8_anew 43 = .ok (.baload, 1) := by decide +kernel
theorem dX8_anew_44 : decode cX8_anew 44 = .ok (.ifCond .eq 8, 3) := by decide +kernel
theorem dX8_anew_47 : decode cX8_anew 47 = .ok (.aload_n 0, 1) := by decide +kernel
theorem dX8_anew_48 : decode cX8_anew 48 = .ok (.iload_n 1, 1) := by decide +kernel
theorem dX8_anew_49 : decode cX8_anew 49 = .ok (.invokevirtual 187, 3) := by decide +kernel
theorem dX8_anew_52 : decode cX8_anew 52 = .ok (.iinc 1 1, 3) := by decide +kernel
theorem dX8_anew_55 : decode cX8_anew 55 = .ok (.goto (-25), 3) := by decide +kernel
theorem dX8_anew_58 : decode cX8_anew 58 = .ok (.return_, 1) := by decide +kernel
theorem dX8_covers_0 : decode cX8_covers 0 = .ok (.iload_n 2, 1) := by decide +kernel
theorem dX8_covers_1 : decode cX8_covers 1 = .ok (.aload_n 0, 1) := by decide +kernel
theorem dX8_covers_2 : decode cX8_covers 2 = .ok (.getfield 62, 3) := by decide +kernel
theorem dX8_covers_5 : decode cX8_covers 5 = .ok (.iload_n 1, 1) := by decide +kernel
theorem dX8_covers_6 : decode cX8_covers 6 = .ok (.iaload, 1) := by decide +kernel
theorem dX8_covers_7 : decode cX8_covers 7 = .ok (.aload_n 0, 1) := by decide +kernel
theorem dX8_covers_8 : decode cX8_covers 8 = .ok (.getfield 62, 3) := by decide +kernel
theorem dX8_covers_11 : decode cX8_covers 11 = .ok (.iload_n 1, 1) := by decide +kernel
theorem dX8_covers_12 : decode cX8_covers 12 = .ok (.iaload, 1) := by decide +kernel
theorem dX8_covers_13 : decode cX8_covers 13 = .ok (.aload_n 0, 1) := by decide +kernel
theorem dX8_covers_14 : decode cX8_covers 14 = .ok (.getfield 38, 3) := by decide +kernel
theorem dX8_covers_17 : decode cX8_covers 17 = .ok (.iload_n 1, 1) := by decide +kernel
theorem dX8_covers_18 : decode cX8_covers 18 = .ok (.iaload, 1) := by decide +kernel
theorem dX8_covers_19 : decode cX8_covers 19 = .ok (.iadd, 1) := by decide +kernel
theorem dX8_covers_20 : decode cX8_covers 20 = .ok (.iconst 1, 1) := by decide +kernel
theorem dX8_covers_21 : decode cX8_covers 21 = .ok (.isub, 1) := by decide +kernel
theorem dX8_covers_22 : decode cX8_covers 22 = .ok (.invokestatic 144, 3) := by decide +kernel
theorem dX8_covers_25 : decode cX8_covers 25 = .ok (.ifCond .eq 35, 3) := by decide +kernel
theorem dX8_covers_28 : decode cX8_covers 28 = .ok (.iload_n 3, 1) := by decide +kernel
theorem dX8_covers_29 : decode cX8_covers 29 = .ok (.aload_n 0, 1) := by decide +kernel
theorem dX8_covers_30 : decode cX8_covers 30 = .ok (.getfield 65, 3) := by decide +kernel
theorem dX8_covers_33 : decode cX8_covers 33 = .ok (.iload_n 1, 1) := by decide +kernel
theorem dX8_covers_34 : decode cX8_covers 34 = .ok (.iaload, 1) := by decide +kernel
theorem dX8_covers_35 : decode cX8_covers 35 = .ok (.aload_n 0, 1) := by decide +kernel
theorem dX8_covers_36 : decode cX8_covers 36 = .ok (.getfield 65, 3) := by decide +kernel
theorem dX8_covers_39 : decode cX8_covers 39 = .ok (.iload_n 1, 1) := by decide +kernel
theorem dX8_covers_40 : decode cX8_covers 40 = .ok (.iaload, 1) := by decide +kernel
theorem dX8_covers_41 : decode cX8_covers 41 = .ok (.aload_n 0, 1) := by decide +kernel
theorem dX8_covers_42 : decode cX8_covers 42 = .ok (.getfield 41, 3) := by decide +kernel
theorem dX8_covers_45 : decode cX8_covers 45 = .ok (.iload_n 1, 1) := by decide +kernel
theorem dX8_covers_46 : decode cX8_covers 46 = .ok (.iaload, 1) := by decide +kernel
theorem dX8_covers_47 : decode cX8_covers 47 = .ok (.iadd, 1) := by decide +kernel
theorem dX8_covers_48 : decode cX8_covers 48 = .ok (.iconst 1, 1) := by decide +kernel
theorem dX8_covers_49 : decode cX8_covers 49 = .ok (.isub, 1) := by decide +kernel
theorem dX8_covers_50 : decode cX8_covers 50 = .ok (.invokestatic 144, 3) := by decide +kernel
theorem dX8_covers_53 : decode cX8_covers 53 = .ok (.ifCond .eq 7, 3) := by decide +kernel
theorem dX8_covers_56 : decode cX8_covers 56 = .ok (.iconst 1, 1) := by decide +kernel
theorem dX8_covers_57 : decode cX8_covers 57 = .ok (.goto 4, 3) := by decide +kernel
theorem dX8_covers_60 : decode cX8_covers 60 = .ok (.iconst 0, 1) := by decide +kernel
theorem dX8_covers_61 : decode cX8_covers 61 = .ok (.ireturn, 1) := by decide +kernel
theorem dX8_seenAt_0 : decode cX8_seenAt 0 = .ok (.iconst (-1), 1) := by decide +kernel
theorem dX8_seenAt_1 : decode cX8_seenAt 1 = .ok (.istore_n 3, 1) := by decide +kernel
theorem dX8_seenAt_2 : decode cX8_seenAt 2 = .ok (.iconst 0, 1) := by decide +kernel
theorem dX8_seenAt_3 : decode cX8_seenAt 3 = .ok (.istore 4, 2) := by decide +kernel
theorem dX8_seenAt_5 : decode cX8_seenAt 5 = .ok (.iload 4, 2) := by decide +kernel
theorem dX8_seenAt_7 : decode cX8_seenAt 7 = .ok (.aload_n 0, 1) := by decide +kernel
theorem dX8_seenAt_8 : decode cX8_seenAt 8 = .ok (.getfield 161, 3) := by decide +kernel
theorem dX8_seenAt_11 : decode cX8_seenAt 11 = .ok (.if_icmp .ge 52, 3) := by decide +kernel
theorem dX8_seenAt_14 : decode cX8_seenAt 14 = .ok (.aload_n 0, 1) := by decide +kernel
theorem dX8_seenAt_15 : decode cX8_seenAt 15 = .ok (.getfield 53, 3) := by decide +kernel
theorem dX8_seenAt_18 : decode cX8_seenAt 18 = .ok (.aload_n 0, 1) := by decide +kernel
theorem dX8_seenAt_19 : decode cX8_seenAt 19 = .ok (.getfield 56, 3) := by decide +kernel
theorem dX8_seenAt_22 : decode cX8_seenAt 22 = .ok (.iload 4, 2) := by decide +kernel
theorem dX8_seenAt_24 : decode cX8_seenAt 24 = .ok (.iaload, 1) := by decide +kernel
theorem dX8_seenAt_25 : decode cX8_seenAt 25 = .ok (.baload, 1) := by decide +kernel
theorem dX8_seenAt_26 : decode cX8_seenAt 26 = .ok (.ifCond .ne 29, 3) := by decide +kernel
theorem dX8_seenAt_29 : decode cX8_seenAt 29 = .ok (.aload_n 0, 1) := by decide +kernel
theorem dX8_seenAt_30 : decode cX8_seenAt 30 = .ok (.aload_n 0, 1) := by decide +kernel
theorem dX8_seenAt_31 : decode cX8_seenAt 31 = .ok (.getfield 56, 3) := by decide +kernel
theorem dX8_seenAt_34 : decode cX8_seenAt 34 = .ok (.iload 4, 2) := by decide +kernel
theorem dX8_seenAt_36 : decode cX8_seenAt 36 = .ok (.iaload, 1) := by decide +kernel
theorem dX8_seenAt_37 : decode cX8_seenAt 37 = .ok (.iload_n 1, 1) := by decide +kernel
theorem dX8_seenAt_38 : decode cX8_seenAt 38 = .ok (.iload_n 2, 1) := by decide +kernel
theorem dX8_seenAt_39 : decode cX8_seenAt 39 = .ok (.invokevirtual 190, 3) := by decide +kernel
theorem dX8_seenAt_42 : decode cX8_seenAt 42 = .ok (.ifCond .eq 13, 3) := by decide +kernel
theorem dX8_seenAt_45 : decode cX8_seenAt 45 = .ok (.aload_n 0, 1) := by decide +kernel
theorem dX8_seenAt_46 : decode cX8_seenAt 46 = .ok (.getfield 56, 3) := by decide +kernel
theorem dX8_seenAt_49 : decode cX8_seenAt 49 = .ok (.iload 4, 2) := by decide +kernel
theorem dX8_seenAt_51 : decode cX8_seenAt 51 = .ok (.iaload, 1) := by decide +kernel
theorem dX8_seenAt_52 : decode cX8_seenAt 52 = .ok (.goto 4, 3) := by decide +kernel
theorem dX8_seenAt_55 : decode cX8_seenAt 55 = .ok (.iload_n 3, 1) := by decide +kernel
theorem dX8_seenAt_56 : decode cX8_seenAt 56 = .ok (.istore_n 3, 1) := by decide +kernel
theorem dX8_seenAt_57 : decode cX8_seenAt 57 = .ok (.iinc 4 1, 3) := by decide +kernel
theorem dX8_seenAt_60 : decode cX8_seenAt 60 = .ok (.goto (-55), 3) := by decide +kernel
theorem dX8_seenAt_63 : decode cX8_seenAt 63 = .ok (.iload_n 3, 1) := by decide +kernel
theorem dX8_seenAt_64 : decode cX8_seenAt 64 = .ok (.ireturn, 1) := by decide +kernel
theorem dX8_inGroup_0 : decode cX8_inGroup 0 = .ok (.iconst 0, 1) := by decide +kernel
theorem dX8_inGroup_1 : decode cX8_inGroup 1 = .ok (.istore_n 2, 1) := by decide +kernel
theorem dX8_inGroup_2 : decode cX8_inGroup 2 = .ok (.iconst 0, 1) := by decide +kernel
theorem dX8_inGroup_3 : decode cX8_inGroup 3 = .ok (.istore_n 3, 1) := by decide +kernel
theorem dX8_inGroup_4 : decode cX8_inGroup 4 = .ok (.iload_n 3, 1) := by decide +kernel
theorem dX8_inGroup_5 : decode cX8_inGroup 5 = .ok (.aload_n 0, 1) := by decide +kernel
theorem dX8_inGroup_6 : decode cX8_inGroup 6 = .ok (.getfield 148, 3) := by decide +kernel
theorem dX8_inGroup_9 : decode cX8_inGroup 9 = .ok (.if_icmp .ge 41, 3) := by decide +kernel
theorem dX8_inGroup_12 : decode cX8_inGroup 12 = .ok (.iload_n 2, 1) := by decide +kernel
theorem dX8_inGroup_13 : decode cX8_inGroup 13 = .ok (.aload_n 0, 1) := by decide +kernel
theorem dX8_inGroup_14 : decode cX8_inGroup 14 = .ok (.getfield 59, 3) := by decide +kernel
theorem dX8_inGroup_17 : decode cX8_inGroup 17 = .ok (.iload_n 3, 1) := by decide +kernel
theorem dX8_inGroup_18 : decode cX8_inGroup 18 = .ok (.baload, 1) := by decide +kernel
theorem dX8_inGroup_19 : decode cX8_inGroup 19 = .ok (.ifCond .eq 22, 3) := by decide +kernel
theorem dX8_inGroup_22 : decode cX8_inGroup 22 = .ok (.aload_n 0, 1) := by decide +kernel
theorem dX8_inGroup_23 : decode cX8_inGroup 23 = .ok (.getfield 71, 3) := by decide +kernel
theorem dX8_inGroup_26 : decode cX8_inGroup 26 = .ok (.iload_n 3, 1) := by decide +kernel
theorem dX8_inGroup_27 : decode cX8_inGroup 27 = .ok (.iaload, 1) := by decide +kernel
theorem dX8_inGroup_28 : decode cX8_inGroup 28 = .ok (.aload_n 0, 1) := by decide +kernel
theorem dX8_inGroup_29 : decode cX8_inGroup 29 = .ok (.getfield 71, 3) := by decide +kernel
theorem dX8_inGroup_32 : decode cX8_inGroup 32 = .ok (.iload_n 1, 1) := by decide +kernel
theorem dX8_inGroup_33 : decode cX8_inGroup 33 = .ok (.iaload, 1) := by decide +kernel
theorem dX8_inGroup_34 : decode cX8_inGroup 34 = .ok (.if_icmp .ne 7, 3) := by decide +kernel
theorem dX8_inGroup_37 : decode cX8_inGroup 37 = .ok (.iconst 1, 1) := by decide +kernel
theorem dX8_inGroup_38 : decode cX8_inGroup 38 = .ok (.goto 4, 3) := by decide +kernel
theorem dX8_inGroup_41 : decode cX8_inGroup 41 = .ok (.iconst 0, 1) := by decide +kernel
theorem dX8_inGroup_42 : decode cX8_inGroup 42 = .ok (.iadd, 1) := by decide +kernel
theorem dX8_inGroup_43 : decode cX8_inGroup 43 = .ok (.istore_n 2, 1) := by decide +kernel
theorem dX8_inGroup_44 : decode cX8_inGroup 44 = .ok (.iinc 3 1, 3) := by decide +kernel
theorem dX8_inGroup_47 : decode cX8_inGroup 47 = .ok (.goto (-43), 3) := by decide +kernel
theorem dX8_inGroup_50 : decode cX8_inGroup 50 = .ok (.iload_n 2, 1) := by decide +kernel
theorem dX8_inGroup_51 : decode cX8_inGroup 51 = .ok (.ireturn, 1) := by decide +kernel
theorem dX8_tells_0 : decode cX8_tells 0 = .ok (.aload_n 0, 1) := by decide +kernel
theorem dX8_tells_1 : decode cX8_tells 1 = .ok (.getfield 7, 3) := by decide +kernel
theorem dX8_tells_4 : decode cX8_tells 4 = .ok (.aload_n 0, 1) := by decide +kernel
theorem dX8_tells_5 : decode cX8_tells 5 = .ok (.getfield 151, 3) := by decide +kernel
theorem dX8_tells_8 : decode cX8_tells 8 = .ok (.iload_n 2, 1) := by decide +kernel
theorem dX8_tells_9 : decode cX8_tells 9 = .ok (.iastore, 1) := by decide +kernel
theorem dX8_tells_10 : decode cX8_tells 10 = .ok (.aload_n 0, 1) := by decide +kernel
theorem dX8_tells_11 : decode cX8_tells 11 = .ok (.getfield 13, 3) := by decide +kernel
theorem dX8_tells_14 : decode cX8_tells 14 = .ok (.aload_n 0, 1) := by decide +kernel
theorem dX8_tells_15 : decode cX8_tells 15 = .ok (.getfield 151, 3) := by decide +kernel
theorem dX8_tells_18 : decode cX8_tells 18 = .ok (.iload_n 1, 1) := by decide +kernel
theorem dX8_tells_19 : decode cX8_tells 19 = .ok (.iastore, 1) := by decide +kernel
theorem dX8_tells_20 : decode cX8_tells 20 = .ok (.aload_n 0, 1) := by decide +kernel
theorem dX8_tells_21 : decode cX8_tells 21 = .ok (.getfield 16, 3) := by decide +kernel
theorem dX8_tells_24 : decode cX8_tells 24 = .ok (.aload_n 0, 1) := by decide +kernel
theorem dX8_tells_25 : decode cX8_tells 25 = .ok (.getfield 151, 3) := by decide +kernel
theorem dX8_tells_28 : decode cX8_tells 28 = .ok (.iload_n 3, 1) := by decide +kernel
theorem dX8_tells_29 : decode cX8_tells 29 = .ok (.iastore, 1) := by decide +kernel
theorem dX8_tells_30 : decode cX8_tells 30 = .ok (.aload_n 0, 1) := by decide +kernel
theorem dX8_tells_31 : decode cX8_tells 31 = .ok (.getfield 19, 3) := by decide +kernel
theorem dX8_tells_34 : decode cX8_tells 34 = .ok (.aload_n 0, 1) := by decide +kernel
theorem dX8_tells_35 : decode cX8_tells 35 = .ok (.getfield 151, 3) := by decide +kernel
theorem dX8_tells_38 : decode cX8_tells 38 = .ok (.iload 4, 2) := by decide +kernel
theorem dX8_tells_40 : decode cX8_tells 40 = .ok (.iastore, 1) := by decide +kernel
theorem dX8_tells_41 : decode cX8_tells 41 = .ok (.aload_n 0, 1) := by decide +kernel
theorem dX8_tells_42 : decode cX8_tells 42 = .ok (.getfield 22, 3) := by decide +kernel
theorem dX8_tells_45 : decode cX8_tells 45 = .ok (.aload_n 0, 1) := by decide +kernel
theorem dX8_tells_46 : decode cX8_tells 46 = .ok (.getfield 151, 3) := by decide +kernel
theorem dX8_tells_49 : decode cX8_tells 49 = .ok (.iload 5, 2) := by decide +kernel
theorem dX8_tells_51 : decode cX8_tells 51 = .ok (.iastore, 1) := by decide +kernel
theorem dX8_tells_52 : decode cX8_tells 52 = .ok (.aload_n 0, 1) := by decide +kernel
theorem dX8_tells_53 : decode cX8_tells 53 = .ok (.getfield 25, 3) := by decide +kernel
theorem dX8_tells_56 : decode cX8_tells 56 = .ok (.aload_n 0, 1) := by decide +kernel
theorem dX8_tells_57 : decode cX8_tells 57 = .ok (.getfield 151, 3) := by decide +kernel
theorem dX8_tells_60 : decode cX8_tells 60 = .ok (.iconst 1, 1) := by decide +kernel
theorem dX8_tells_61 : decode cX8_tells 61 = .ok (.bastore, 1) := by decide +kernel
theorem dX8_tells_62 : decode cX8_tells 62 = .ok (.aload_n 0, 1) := by decide +kernel
theorem dX8_tells_63 : decode cX8_tells 63 = .ok (.getfield 32, 3) := by decide +kernel
theorem dX8_tells_66 : decode cX8_tells 66 = .ok (.iload_n 1, 1) := by decide +kernel
theorem dX8_tells_67 : decode cX8_tells 67 = .ok (.iconst 0, 1) := by decide +kernel
theorem dX8_tells_68 : decode cX8_tells 68 = .ok (.iastore, 1) := by decide +kernel
theorem dX8_tells_69 : decode cX8_tells 69 = .ok (.aload_n 0, 1) := by decide +kernel
theorem dX8_tells_70 : decode cX8_tells 70 = .ok (.dup, 1) := by decide +kernel
theorem dX8_tells_71 : decode cX8_tells 71 = .ok (.getfield 151, 3) := by decide +kernel
theorem dX8_tells_74 : decode cX8_tells 74 = .ok (.iconst 1, 1) := by decide +kernel
theorem dX8_tells_75 : decode cX8_tells 75 = .ok (.iadd, 1) := by decide +kernel
theorem dX8_tells_76 : decode cX8_tells 76 = .ok (.putfield 151, 3) := by decide +kernel
theorem dX8_tells_79 : decode cX8_tells 79 = .ok (.aload_n 0, 1) := by decide +kernel
theorem dX8_tells_80 : decode cX8_tells 80 = .ok (.invokevirtual 193, 3) := by decide +kernel
theorem dX8_tells_83 : decode cX8_tells 83 = .ok (.return_, 1) := by decide +kernel
theorem dX8_canName_0 : decode cX8_canName 0 = .ok (.aload_n 0, 1) := by decide +kernel
theorem dX8_canName_1 : decode cX8_canName 1 = .ok (.getfield 59, 3) := by decide +kernel
theorem dX8_canName_4 : decode cX8_canName 4 = .ok (.iload_n 1, 1) := by decide +kernel
theorem dX8_canName_5 : decode cX8_canName 5 = .ok (.baload, 1) := by decide +kernel
theorem dX8_canName_6 : decode cX8_canName 6 = .ok (.ifCond .eq 26, 3) := by decide +kernel
theorem dX8_canName_9 : decode cX8_canName 9 = .ok (.aload_n 0, 1) := by decide +kernel
theorem dX8_canName_10 : decode cX8_canName 10 = .ok (.getfield 53, 3) := by decide +kernel
theorem dX8_canName_13 : decode cX8_canName 13 = .ok (.iload_n 1, 1) := by decide +kernel
theorem dX8_canName_14 : decode cX8_canName 14 = .ok (.baload, 1) := by decide +kernel
theorem dX8_canName_15 : decode cX8_canName 15 = .ok (.ifCond .ne 17, 3) := by decide +kernel
theorem dX8_canName_18 : decode cX8_canName 18 = .ok (.aload_n 0, 1) := by decide +kernel
theorem dX8_canName_19 : decode cX8_canName 19 = .ok (.getfield 151, 3) := by decide +kernel
theorem dX8_canName_22 : decode cX8_canName 22 = .ok (.sipush 200, 3) := by decide +kernel
theorem dX8_canName_25 : decode cX8_canName 25 = .ok (.if_icmp .ge 7, 3) := by decide +kernel
theorem dX8_canName_28 : decode cX8_canName 28 = .ok (.iconst 1, 1) := by decide +kernel
theorem dX8_canName_29 : decode cX8_canName 29 = .ok (.goto 4, 3) := by decide +kernel
theorem dX8_canName_32 : decode cX8_canName 32 = .ok (.iconst 0, 1) := by decide +kernel
theorem dX8_canName_33 : decode cX8_canName 33 = .ok (.ireturn, 1) := by decide +kernel
theorem dX8_add_0 : decode cX8_add 0 = .ok (.iload_n 2, 1) := by decide +kernel
theorem dX8_add_1 : decode cX8_add 1 = .ok (.iconst 0, 1) := by decide +kernel
theorem dX8_add_2 : decode cX8_add 2 = .ok (.bipush 23, 2) := by decide +kernel
theorem dX8_add_4 : decode cX8_add 4 = .ok (.invokestatic 144, 3) := by decide +kernel
theorem dX8_add_7 : decode cX8_add 7 = .ok (.ifCond .eq 28, 3) := by decide +kernel
theorem dX8_add_10 : decode cX8_add 10 = .ok (.iload_n 3, 1) := by decide +kernel
theorem dX8_add_11 : decode cX8_add 11 = .ok (.iconst 0, 1) := by decide +kernel
theorem dX8_add_12 : decode cX8_add 12 = .ok (.bipush 15, 2) := by decide +kernel
theorem dX8_add_14 : decode cX8_add 14 = .ok (.invokestatic 144, 3) := by decide +kernel
theorem dX8_add_17 : decode cX8_add 17 = .ok (.ifCond .eq 18, 3) := by decide +kernel
theorem dX8_add_20 : decode cX8_add 20 = .ok (.iload 6, 2) := by decide +kernel
theorem dX8_add_22 : decode cX8_add 22 = .ok (.iconst 1, 1) := by decide +kernel
theorem dX8_add_23 : decode cX8_add 23 = .ok (.bipush 9, 2) := by decide +kernel
theorem dX8_add_25 : decode cX8_add 25 = .ok (.invokestatic 144, 3) := by decide +kernel
theorem dX8_add_28 : decode cX8_add 28 = .ok (.ifCond .eq 7, 3) := by decide +kernel
theorem dX8_add_31 : decode cX8_add 31 = .ok (.iconst 1, 1) := by decide +kernel
theorem dX8_add_32 : decode cX8_add 32 = .ok (.goto 4, 3) := by decide +kernel
theorem dX8_add_35 : decode cX8_add 35 = .ok (.iconst 0, 1) := by decide +kernel
theorem dX8_add_36 : decode cX8_add 36 = .ok (.istore 7, 2) := by decide +kernel
theorem dX8_add_38 : decode cX8_add 38 = .ok (.iload 7, 2) := by decide +kernel
theorem dX8_add_40 : decode cX8_add 40 = .ok (.ifCond .eq 33, 3) := by decide +kernel
theorem dX8_add_43 : decode cX8_add 43 = .ok (.iload 4, 2) := by decide +kernel
theorem dX8_add_45 : decode cX8_add 45 = .ok (.iconst 1, 1) := by decide +kernel
theorem dX8_add_46 : decode cX8_add 46 = .ok (.bipush 24, 2) := by decide +kernel
theorem dX8_add_48 : decode cX8_add 48 = .ok (.iload_n 2, 1) := by decide +kernel
theorem dX8_add_49 : decode cX8_add 49 = .ok (.isub, 1) := by decide +kernel
theorem dX8_add_50 : decode cX8_add 50 = .ok (.invokestatic 144, 3) := by decide +kernel
theorem dX8_add_53 : decode cX8_add 53 = .ok (.ifCond .eq 20, 3) := by decide +kernel
theorem dX8_add_56 : decode cX8_add 56 = .ok (.iload 5, 2) := by decide +kernel
theorem dX8_add_58 : decode cX8_add 58 = .ok (.iconst 1, 1) := by decide +kernel
theorem dX8_add_59 : decode cX8_add 59 = .ok (.bipush 16, 2) := by decide +kernel
theorem dX8_add_61 : decode cX8_add 61 = .ok (.iload_n 3, 1) := by decide +kernel
theorem dX8_add_62 : decode cX8_add 62 = .ok (.isub, 1) := by decide +kernel
theorem dX8_add_63 : decode cX8_add 63 = .ok (.invokestatic 144, 3) := by decide +kernel
theorem dX8_add_66 : decode cX8_add 66 = .ok (.ifCond .eq 7, 3) := by decide +kernel
theorem dX8_add_69 : decode cX8_add 69 = .ok (.iconst 1, 1) := by decide +kernel
theorem dX8_add_70 : decode cX8_add 70 = .ok (.goto 4, 3) := by decide +kernel
theorem dX8_add_73 : decode cX8_add 73 = .ok (.iconst 0, 1) := by decide +kernel
theorem dX8_add_74 : decode cX8_add 74 = .ok (.istore 7, 2) := by decide +kernel
theorem dX8_add_76 : decode cX8_add 76 = .ok (.aload_n 0, 1) := by decide +kernel
theorem dX8_add_77 : decode cX8_add 77 = .ok (.iload_n 1, 1) := by decide +kernel
theorem dX8_add_78 : decode cX8_add 78 = .ok (.invokestatic 196, 3) := by decide +kernel
theorem dX8_add_81 : decode cX8_add 81 = .ok (.ifCond .ne 7, 3) := by decide +kernel
theorem dX8_add_84 : decode cX8_add 84 = .ok (.iconst 1, 1) := by decide +kernel
theorem dX8_add_85 : decode cX8_add 85 = .ok (.goto 36, 3) := by decide +kernel
theorem dX8_add_88 : decode cX8_add 88 = .ok (.iload 7, 2) := by decide +kernel
theorem dX8_add_90 : decode cX8_add 90 = .ok (.ifCond .ne 7, 3) := by decide +kernel
theorem dX8_add_93 : decode cX8_add 93 = .ok (.iconst 2, 1) := by decide +kernel
theorem dX8_add_94 : decode cX8_add 94 = .ok (.goto 27, 3) := by decide +kernel
theorem dX8_add_97 : decode cX8_add 97 = .ok (.aload_n 0, 1) := by decide +kernel
theorem dX8_add_98 : decode cX8_add 98 = .ok (.getfield 148, 3) := by decide +kernel
theorem dX8_add_101 : decode cX8_add 101 = .ok (.bipush 40, 2) := by decide +kernel
theorem dX8_add_103 : decode cX8_add 103 = .ok (.if_icmp .eq 13, 3) := by decide +kernel
theorem dX8_add_106 : decode cX8_add 106 = .ok (.aload_n 0, 1) := by decide +kernel
theorem dX8_add_107 : decode cX8_add 107 = .ok (.getfield 151, 3) := by decide +kernel
theorem dX8_add_110 : decode cX8_add 110 = .ok (.sipush 200, 3) := by decide +kernel
theorem dX8_add_113 : decode cX8_add 113 = .ok (.if_icmp .ne 7, 3) := by decide +kernel
theorem dX8_add_116 : decode cX8_add 116 = .ok (.iconst 3, 1) := by decide +kernel
theorem dX8_add_117 : decode cX8_add 117 = .ok (.goto 4, 3) := by decide +kernel
theorem dX8_add_120 : decode cX8_add 120 = .ok (.iconst 0, 1) := by decide +kernel
theorem dX8_add_121 : decode cX8_add 121 = .ok (.putfield 140, 3) := by decide +kernel
theorem dX8_add_124 : decode cX8_add 124 = .ok (.aload_n 0, 1) := by decide +kernel
theorem dX8_add_125 : decode cX8_add 125 = .ok (.getfield 140, 3) := by decide +kernel
theorem dX8_add_128 : decode cX8_add 128 = .ok (.ifCond .le 5, 3) := by decide +kernel
theorem dX8_add_131 : decode cX8_add 131 = .ok (.iconst 0, 1) := by decide +kernel
theorem dX8_add_132 : decode cX8_add 132 = .ok (.ireturn, 1) := by decide +kernel
theorem dX8_add_133 : decode cX8_add 133 = .ok (.aload_n 0, 1) := by decide +kernel
theorem dX8_add_134 : decode cX8_add 134 = .ok (.getfield 35, 3) := by decide +kernel
theorem dX8_add_137 : decode cX8_add 137 = .ok (.aload_n 0, 1) := by decide +kernel
theorem dX8_add_138 : decode cX8_add 138 = .ok (.getfield 148, 3) := by decide +kernel
theorem dX8_add_141 : decode cX8_add 141 = .ok (.iload_n 1, 1) := by decide +kernel
theorem dX8_add_142 : decode cX8_add 142 = .ok (.iastore, 1) := by decide +kernel
theorem dX8_add_143 : decode cX8_add 143 = .ok (.aload_n 0, 1) := by decide +kernel
theorem dX8_add_144 : decode cX8_add 144 = .ok (.getfield 38, 3) := by decide +kernel
theorem dX8_add_147 : decode cX8_add 147 = .ok (.aload_n 0, 1) := by decide +kernel
theorem dX8_add_148 : decode cX8_add 148 = .ok (.getfield 148, 3) := by decide +kernel
theorem dX8_add_151 : decode cX8_add 151 = .ok (.iload 4, 2) := by decide +kernel
theorem dX8_add_153 : decode cX8_add 153 = .ok (.iastore, 1) := by decide +kernel
theorem dX8_add_154 : decode cX8_add 154 = .ok (.aload_n 0, 1) := by decide +kernel
theorem dX8_add_155 : decode cX8_add 155 = .ok (.getfield 41, 3) := by decide +kernel
theorem dX8_add_158 : decode cX8_add 158 = .ok (.aload_n 0, 1) := by decide +kernel
theorem dX8_add_159 : decode cX8_add 159 = .ok (.getfield 148, 3) := by decide +kernel
theorem dX8_add_162 : decode cX8_add 162 = .ok (.iload 5, 2) := by decide +kernel
theorem dX8_add_164 : decode cX8_add 164 = .ok (.iastore, 1) := by decide +kernel
theorem dX8_add_165 : decode cX8_add 165 = .ok (.aload_n 0, 1) := by decide +kernel
theorem dX8_add_166 : decode cX8_add 166 = .ok (.getfield 44, 3) := by decide +kernel
theorem dX8_add_169 : decode cX8_add 169 = .ok (.aload_n 0, 1) := by decide +kernel
theorem dX8_add_170 : decode cX8_add 170 = .ok (.getfield 148, 3) := by decide +kernel
theorem dX8_add_173 : decode cX8_add 173 = .ok (.iload_n 2, 1) := by decide +kernel
theorem dX8_add_174 : decode cX8_add 174 = .ok (.iastore, 1) := by decide +kernel
theorem dX8_add_175 : decode cX8_add 175 = .ok (.aload_n 0, 1) := by decide +kernel
theorem dX8_add_176 : decode cX8_add 176 = .ok (.getfield 47, 3) := by decide +kernel
theorem dX8_add_179 : decode cX8_add 179 = .ok (.aload_n 0, 1) := by decide +kernel
theorem dX8_add_180 : decode cX8_add 180 = .ok (.getfield 148, 3) := by decide +kernel
theorem dX8_add_183 : decode cX8_add 183 = .ok (.iload_n 3, 1) := by decide +kernel
theorem dX8_add_184 : decode cX8_add 184 = .ok (.iastore, 1) := by decide +kernel
theorem dX8_add_185 : decode cX8_add 185 = .ok (.aload_n 0, 1) := by decide +kernel
theorem dX8_add_186 : decode cX8_add 186 = .ok (.getfield 50, 3) := by decide +kernel
theorem dX8_add_189 : decode cX8_add 189 = .ok (.aload_n 0, 1) := by decide +kernel
theorem dX8_add_190 : decode cX8_add 190 = .ok (.getfield 148, 3) := by decide +kernel
theorem dX8_add_193 : decode cX8_add 193 = .ok (.iload 6, 2) := by decide +kernel
theorem dX8_add_195 : decode cX8_add 195 = .ok (.iastore, 1) := by decide +kernel
theorem dX8_add_196 : decode cX8_add 196 = .ok (.aload_n 0, 1) := by decide +kernel
theorem dX8_add_197 : decode cX8_add 197 = .ok (.dup, 1) := by decide +kernel
theorem dX8_add_198 : decode cX8_add 198 = .ok (.getfield 148, 3) := by decide +kernel
theorem dX8_add_201 : decode cX8_add 201 = .ok (.iconst 1, 1) := by decide +kernel
theorem dX8_add_202 : decode cX8_add 202 = .ok (.iadd, 1) := by decide +kernel
theorem dX8_add_203 : decode cX8_add 203 = .ok (.putfield 148, 3) := by decide +kernel
theorem dX8_add_206 : decode cX8_add 206 = .ok (.aload_n 0, 1) := by decide +kernel
theorem dX8_add_207 : decode cX8_add 207 = .ok (.iload_n 1, 1) := by decide +kernel
theorem dX8_add_208 : decode cX8_add 208 = .ok (.iconst 0, 1) := by decide +kernel
theorem dX8_add_209 : decode cX8_add 209 = .ok (.aload_n 0, 1) := by decide +kernel
theorem dX8_add_210 : decode cX8_add 210 = .ok (.getfield 148, 3) := by decide +kernel
theorem dX8_add_213 : decode cX8_add 213 = .ok (.iconst 1, 1) := by decide +kernel
theorem dX8_add_214 : decode cX8_add 214 = .ok (.isub, 1) := by decide +kernel
theorem dX8_add_215 : decode cX8_add 215 = .ok (.iconst 0, 1) := by decide +kernel
theorem dX8_add_216 : decode cX8_add 216 = .ok (.iconst 0, 1) := by decide +kernel
theorem dX8_add_217 : decode cX8_add 217 = .ok (.invokevirtual 199, 3) := by decide +kernel
theorem dX8_add_220 : decode cX8_add 220 = .ok (.aload_n 0, 1) := by decide +kernel
theorem dX8_add_221 : decode cX8_add 221 = .ok (.getfield 148, 3) := by decide +kernel
theorem dX8_add_224 : decode cX8_add 224 = .ok (.iconst 1, 1) := by decide +kernel
theorem dX8_add_225 : decode cX8_add 225 = .ok (.isub, 1) := by decide +kernel
theorem dX8_add_226 : decode cX8_add 226 = .ok (.ireturn, 1) := by decide +kernel
theorem dX8_move_0 : decode cX8_move 0 = .ok (.aload_n 0, 1) := by decide +kernel
theorem dX8_move_1 : decode cX8_move 1 = .ok (.iload_n 1, 1) := by decide +kernel
theorem dX8_move_2 : decode cX8_move 2 = .ok (.invokestatic 196, 3) := by decide +kernel
theorem dX8_move_5 : decode cX8_move 5 = .ok (.ifCond .eq 11, 3) := by decide +kernel
theorem dX8_move_8 : decode cX8_move 8 = .ok (.aload_n 0, 1) := by decide +kernel
theorem dX8_move_9 : decode cX8_move 9 = .ok (.iload_n 2, 1) := by decide +kernel
theorem dX8_move_10 : decode cX8_move 10 = .ok (.invokevirtual 203, 3) := by decide +kernel
theorem dX8_move_13 : decode cX8_move 13 = .ok (.ifCond .ne 7, 3) := by decide +kernel
theorem dX8_move_16 : decode cX8_move 16 = .ok (.iconst 1, 1) := by decide +kernel
theorem dX8_move_17 : decode cX8_move 17 = .ok (.goto 31, 3) := by decide +kernel
theorem dX8_move_20 : decode cX8_move 20 = .ok (.iload_n 3, 1) := by decide +kernel
theorem dX8_move_21 : decode cX8_move 21 = .ok (.bipush (-24), 2) := by decide +kernel
theorem dX8_move_23 : decode cX8_move 23 = .ok (.bipush 24, 2) := by decide +kernel
theorem dX8_move_25 : decode cX8_move 25 = .ok (.invokestatic 144, 3) := by decide +kernel
theorem dX8_move_28 : decode cX8_move 28 = .ok (.ifCond .eq 19, 3) := by decide +kernel
theorem dX8_move_31 : decode cX8_move 31 = .ok (.iload 4, 2) := by decide +kernel
theorem dX8_move_33 : decode cX8_move 33 = .ok (.bipush (-16), 2) := by decide +kernel
theorem dX8_move_35 : decode cX8_move 35 = .ok (.bipush 16, 2) := by decide +kernel
theorem dX8_move_37 : decode cX8_move 37 = .ok (.invokestatic 144, 3) := by decide +kernel
theorem dX8_move_40 : decode cX8_move 40 = .ok (.ifCond .eq 7, 3) := by decide +kernel
theorem dX8_move_43 : decode cX8_move 43 = .ok (.iconst 0, 1) := by decide +kernel
theorem dX8_move_44 : decode cX8_move 44 = .ok (.goto 4, 3) := by decide +kernel
theorem dX8_move_47 : decode cX8_move 47 = .ok (.iconst 2, 1) := by decide +kernel
theorem dX8_move_48 : decode cX8_move 48 = .ok (.putfield 140, 3) := by decide +kernel
theorem dX8_move_51 : decode cX8_move 51 = .ok (.aload_n 0, 1) := by decide +kernel
theorem dX8_move_52 : decode cX8_move 52 = .ok (.getfield 140, 3) := by decide +kernel
theorem dX8_move_55 : decode cX8_move 55 = .ok (.ifCond .le 5, 3) := by decide +kernel
theorem dX8_move_58 : decode cX8_move 58 = .ok (.iconst 0, 1) := by decide +kernel
theorem dX8_move_59 : decode cX8_move 59 = .ok (.ireturn, 1) := by decide +kernel
theorem dX8_move_60 : decode cX8_move 60 = .ok (.aload_n 0, 1) := by decide +kernel
theorem dX8_move_61 : decode cX8_move 61 = .ok (.aload_n 0, 1) := by decide +kernel
theorem dX8_move_62 : decode cX8_move 62 = .ok (.iload_n 2, 1) := by decide +kernel
theorem dX8_move_63 : decode cX8_move 63 = .ok (.invokevirtual 206, 3) := by decide +kernel
theorem dX8_move_66 : decode cX8_move 66 = .ok (.ifCond .eq 7, 3) := by decide +kernel
theorem dX8_move_69 : decode cX8_move 69 = .ok (.iconst 0, 1) := by decide +kernel
theorem dX8_move_70 : decode cX8_move 70 = .ok (.goto 4, 3) := by decide +kernel
theorem dX8_move_73 : decode cX8_move 73 = .ok (.iconst 3, 1) := by decide +kernel
theorem dX8_move_74 : decode cX8_move 74 = .ok (.putfield 140, 3) := by decide +kernel
theorem dX8_move_77 : decode cX8_move 77 = .ok (.aload_n 0, 1) := by decide +kernel
theorem dX8_move_78 : decode cX8_move 78 = .ok (.getfield 140, 3) := by decide +kernel
theorem dX8_move_81 : decode cX8_move 81 = .ok (.ifCond .le 5, 3) := by decide +kernel
theorem dX8_move_84 : decode cX8_move 84 = .ok (.iconst 0, 1) := by decide +kernel
theorem dX8_move_85 : decode cX8_move 85 = .ok (.ireturn, 1) := by decide +kernel
theorem dX8_move_86 : decode cX8_move 86 = .ok (.aload_n 0, 1) := by decide +kernel
theorem dX8_move_87 : decode cX8_move 87 = .ok (.iload_n 1, 1) := by decide +kernel
theorem dX8_move_88 : decode cX8_move 88 = .ok (.iconst 1, 1) := by decide +kernel
theorem dX8_move_89 : decode cX8_move 89 = .ok (.iload_n 2, 1) := by decide +kernel
theorem dX8_move_90 : decode cX8_move 90 = .ok (.iload_n 3, 1) := by decide +kernel
theorem dX8_move_91 : decode cX8_move 91 = .ok (.iload 4, 2) := by decide +kernel
theorem dX8_move_93 : decode cX8_move 93 = .ok (.invokevirtual 199, 3) := by decide +kernel
theorem dX8_move_96 : decode cX8_move 96 = .ok (.aload_n 0, 1) := by decide +kernel
theorem dX8_move_97 : decode cX8_move 97 = .ok (.iload_n 2, 1) := by decide +kernel
theorem dX8_move_98 : decode cX8_move 98 = .ok (.invokevirtual 209, 3) := by decide +kernel
theorem dX8_move_101 : decode cX8_move 101 = .ok (.ireturn, 1) := by decide +kernel
theorem dX8_paint_0 : decode cX8_paint 0 = .ok (.aload_n 0, 1) := by decide +kernel
theorem dX8_paint_1 : decode cX8_paint 1 = .ok (.iload_n 1, 1) := by decide +kernel
theorem dX8_paint_2 : decode cX8_paint 2 = .ok (.invokestatic 196, 3) := by decide +kernel
theorem dX8_paint_5 : decode cX8_paint 5 = .ok (.ifCond .eq 11, 3) := by decide +kernel
theorem dX8_paint_8 : decode cX8_paint 8 = .ok (.aload_n 0, 1) := by decide +kernel
theorem dX8_paint_9 : decode cX8_paint 9 = .ok (.iload_n 2, 1) := by decide +kernel
theorem dX8_paint_10 : decode cX8_paint 10 = .ok (.invokevirtual 203, 3) := by decide +kernel
theorem dX8_paint_13 : decode cX8_paint 13 = .ok (.ifCond .ne 7, 3) := by decide +kernel
theorem dX8_paint_16 : decode cX8_paint 16 = .ok (.iconst 1, 1) := by decide +kernel
theorem dX8_paint_17 : decode cX8_paint 17 = .ok (.goto 18, 3) := by decide +kernel
theorem dX8_paint_20 : decode cX8_paint 20 = .ok (.iload_n 3, 1) := by decide +kernel
theorem dX8_paint_21 : decode cX8_paint 21 = .ok (.iconst 1, 1) := by decide +kernel
theorem dX8_paint_22 : decode cX8_paint 22 = .ok (.bipush 9, 2) := by decide +kernel
theorem dX8_paint_24 : decode cX8_paint 24 = .ok (.invokestatic 144, 3) := by decide +kernel
theorem dX8_paint_27 : decode cX8_paint 27 = .ok (.ifCond .eq 7, 3) := by decide +kernel
theorem dX8_paint_30 : decode cX8_paint 30 = .ok (.iconst 0, 1) := by decide +kernel
theorem dX8_paint_31 : decode cX8_paint 31 = .ok (.goto 4, 3) := by decide +kernel
theorem dX8_paint_34 : decode cX8_paint 34 = .ok (.iconst 2, 1) := by decide +kernel
theorem dX8_paint_35 : decode cX8_paint 35 = .ok (.putfield 140, 3) := by decide +kernel
theorem dX8_paint_38 : decode cX8_paint 38 = .ok (.aload_n 0, 1) := by decide +kernel
theorem dX8_paint_39 : decode cX8_paint 39 = .ok (.getfield 140, 3) := by decide +kernel
theorem dX8_paint_42 : decode cX8_paint 42 = .ok (.ifCond .le 5, 3) := by decide +kernel
theorem dX8_paint_45 : decode cX8_paint 45 = .ok (.iconst 0, 1) := by decide +kernel
theorem dX8_paint_46 : decode cX8_paint 46 = .ok (.ireturn, 1) := by decide +kernel
theorem dX8_paint_47 : decode cX8_paint 47 = .ok (.aload_n 0, 1) := by decide +kernel
theorem dX8_paint_48 : decode cX8_paint 48 = .ok (.aload_n 0, 1) := by decide +kernel
theorem dX8_paint_49 : decode cX8_paint 49 = .ok (.iload_n 2, 1) := by decide +kernel
theorem dX8_paint_50 : decode cX8_paint 50 = .ok (.invokevirtual 206, 3) := by decide +kernel
theorem dX8_paint_53 : decode cX8_paint 53 = .ok (.ifCond .eq 7, 3) := by decide +kernel
theorem dX8_paint_56 : decode cX8_paint 56 = .ok (.iconst 0, 1) := by decide +kernel
theorem dX8_paint_57 : decode cX8_paint 57 = .ok (.goto 4, 3) := by decide +kernel
theorem dX8_paint_60 : decode cX8_paint 60 = .ok (.iconst 3, 1) := by decide +kernel
theorem dX8_paint_61 : decode cX8_paint 61 = .ok (.putfield 140, 3) := by decide +kernel
theorem dX8_paint_64 : decode cX8_paint 64 = .ok (.aload_n 0, 1) := by decide +kernel
theorem dX8_paint_65 : decode cX8_paint 65 = .ok (.getfield 140, 3) := by decide +kernel
theorem dX8_paint_68 : decode cX8_paint 68 = .ok (.ifCond .le 5, 3) := by decide +kernel
theorem dX8_paint_71 : decode cX8_paint 71 = .ok (.iconst 0, 1) := by decide +kernel
theorem dX8_paint_72 : decode cX8_paint 72 = .ok (.ireturn, 1) := by decide +kernel
theorem dX8_paint_73 : decode cX8_paint 73 = .ok (.aload_n 0, 1) := by decide +kernel
theorem dX8_paint_74 : decode cX8_paint 74 = .ok (.getfield 68, 3) := by decide +kernel
theorem dX8_paint_77 : decode cX8_paint 77 = .ok (.iload_n 2, 1) := by decide +kernel
theorem dX8_paint_78 : decode cX8_paint 78 = .ok (.iaload, 1) := by decide +kernel
theorem dX8_paint_79 : decode cX8_paint 79 = .ok (.istore 4, 2) := by decide +kernel
theorem dX8_paint_81 : decode cX8_paint 81 = .ok (.aload_n 0, 1) := by decide +kernel
theorem dX8_paint_82 : decode cX8_paint 82 = .ok (.iload_n 1, 1) := by decide +kernel
theorem dX8_paint_83 : decode cX8_paint 83 = .ok (.iconst 2, 1) := by decide +kernel
theorem dX8_paint_84 : decode cX8_paint 84 = .ok (.iload_n 2, 1) := by decide +kernel
theorem dX8_paint_85 : decode cX8_paint 85 = .ok (.iload_n 3, 1) := by decide +kernel
theorem dX8_paint_86 : decode cX8_paint 86 = .ok (.iconst 0, 1) := by decide +kernel
theorem dX8_paint_87 : decode cX8_paint 87 = .ok (.invokevirtual 199, 3) := by decide +kernel
theorem dX8_paint_90 : decode cX8_paint 90 = .ok (.iload 4, 2) := by decide +kernel
theorem dX8_paint_92 : decode cX8_paint 92 = .ok (.ireturn, 1) := by decide +kernel
theorem dX8_names_0 : decode cX8_names 0 = .ok (.iload_n 1, 1) := by decide +kernel
theorem dX8_names_1 : decode cX8_names 1 = .ok (.invokestatic 196, 3) := by decide +kernel
theorem dX8_names_4 : decode cX8_names 4 = .ok (.ifCond .eq 11, 3) := by decide +kernel
theorem dX8_names_7 : decode cX8_names 7 = .ok (.aload_n 0, 1) := by decide +kernel
theorem dX8_names_8 : decode cX8_names 8 = .ok (.iload_n 2, 1) := by decide +kernel
theorem dX8_names_9 : decode cX8_names 9 = .ok (.invokevirtual 203, 3) := by decide +kernel
theorem dX8_names_12 : decode cX8_names 12 = .ok (.ifCond .ne 5, 3) := by decide +kernel
theorem dX8_names_15 : decode cX8_names 15 = .ok (.iconst 1, 1) := by decide +kernel
theorem dX8_names_16 : decode cX8_names 16 = .ok (.ireturn, 1) := by decide +kernel
theorem dX8_names_17 : decode cX8_names 17 = .ok (.aload_n 0, 1) := by decide +kernel
theorem dX8_names_18 : decode cX8_names 18 = .ok (.iload_n 2, 1) := by decide +kernel
theorem dX8_names_19 : decode cX8_names 19 = .ok (.invokevirtual 206, 3) := by decide +kernel
theorem dX8_names_22 : decode cX8_names 22 = .ok (.ifCond .eq 7, 3) := by decide +kernel
theorem dX8_names_25 : decode cX8_names 25 = .ok (.iconst 0, 1) := by decide +kernel
theorem dX8_names_26 : decode cX8_names 26 = .ok (.goto 4, 3) := by decide +kernel
theorem dX8_names_29 : decode cX8_names 29 = .ok (.iconst 2, 1) := by decide +kernel
theorem dX8_names_30 : decode cX8_names 30 = .ok (.ireturn, 1) := by decide +kernel
theorem dX8_layer_0 : decode cX8_layer 0 = .ok (.aload_n 0, 1) := by decide +kernel
theorem dX8_layer_1 : decode cX8_layer 1 = .ok (.aload_n 0, 1) := by decide +kernel
theorem dX8_layer_2 : decode cX8_layer 2 = .ok (.iload_n 1, 1) := by decide +kernel
theorem dX8_layer_3 : decode cX8_layer 3 = .ok (.iload_n 2, 1) := by decide +kernel
theorem dX8_layer_4 : decode cX8_layer 4 = .ok (.invokevirtual 213, 3) := by decide +kernel
theorem dX8_layer_7 : decode cX8_layer 7 = .ok (.putfield 140, 3) := by decide +kernel
theorem dX8_layer_10 : decode cX8_layer 10 = .ok (.aload_n 0, 1) := by decide +kernel
theorem dX8_layer_11 : decode cX8_layer 11 = .ok (.getfield 140, 3) := by decide +kernel
theorem dX8_layer_14 : decode cX8_layer 14 = .ok (.ifCond .le 5, 3) := by decide +kernel
theorem dX8_layer_17 : decode cX8_layer 17 = .ok (.iconst 0, 1) := by decide +kernel
theorem dX8_layer_18 : decode cX8_layer 18 = .ok (.ireturn, 1) := by decide +kernel
theorem dX8_layer_19 : decode cX8_layer 19 = .ok (.aload_n 0, 1) := by decide +kernel
theorem dX8_layer_20 : decode cX8_layer 20 = .ok (.iload_n 1, 1) := by decide +kernel
theorem dX8_layer_21 : decode cX8_layer 21 = .ok (.iload_n 3, 1) := by decide +kernel
theorem dX8_layer_22 : decode cX8_layer 22 = .ok (.ifCond .eq 7, 3) := by decide +kernel
theorem dX8_layer_25 : decode cX8_layer 25 = .ok (.iconst 3, 1) := by decide +kernel
theorem dX8_layer_26 : decode cX8_layer 26 = .ok (.goto 4, 3) := by decide +kernel
theorem dX8_layer_29 : decode cX8_layer 29 = .ok (.iconst 4, 1) := by decide +kernel
theorem dX8_layer_30 : decode cX8_layer 30 = .ok (.iload_n 2, 1) := by decide +kernel
theorem dX8_layer_31 : decode cX8_layer 31 = .ok (.iconst 0, 1) := by decide +kernel
theorem dX8_layer_32 : decode cX8_layer 32 = .ok (.iconst 0, 1) := by decide +kernel
theorem dX8_layer_33 : decode cX8_layer 33 = .ok (.invokevirtual 199, 3) := by decide +kernel
theorem dX8_layer_36 : decode cX8_layer 36 = .ok (.aload_n 0, 1) := by decide +kernel
theorem dX8_layer_37 : decode cX8_layer 37 = .ok (.getfield 161, 3) := by decide +kernel
theorem dX8_layer_40 : decode cX8_layer 40 = .ok (.ireturn, 1) := by decide +kernel
theorem dX8_join_0 : decode cX8_join 0 = .ok (.aload_n 0, 1) := by decide +kernel
theorem dX8_join_1 : decode cX8_join 1 = .ok (.iload_n 1, 1) := by decide +kernel
theorem dX8_join_2 : decode cX8_join 2 = .ok (.invokestatic 196, 3) := by decide +kernel
theorem dX8_join_5 : decode cX8_join 5 = .ok (.ifCond .eq 19, 3) := by decide +kernel
theorem dX8_join_8 : decode cX8_join 8 = .ok (.aload_n 0, 1) := by decide +kernel
theorem dX8_join_9 : decode cX8_join 9 = .ok (.iload_n 2, 1) := by decide +kernel
theorem dX8_join_10 : decode cX8_join 10 = .ok (.invokevirtual 203, 3) := by decide +kernel
theorem dX8_join_13 : decode cX8_join 13 = .ok (.ifCond .eq 11, 3) := by decide +kernel
theorem dX8_join_16 : decode cX8_join 16 = .ok (.aload_n 0, 1) := by decide +kernel
theorem dX8_join_17 : decode cX8_join 17 = .ok (.iload_n 3, 1) := by decide +kernel
theorem dX8_join_18 : decode cX8_join 18 = .ok (.invokevirtual 203, 3) := by decide +kernel
theorem dX8_join_21 : decode cX8_join 21 = .ok (.ifCond .ne 7, 3) := by decide +kernel
theorem dX8_join_24 : decode cX8_join 24 = .ok (.iconst 1, 1) := by decide +kernel
theorem dX8_join_25 : decode cX8_join 25 = .ok (.goto 13, 3) := by decide +kernel
theorem dX8_join_28 : decode cX8_join 28 = .ok (.iload_n 2, 1) := by decide +kernel
theorem dX8_join_29 : decode cX8_join 29 = .ok (.iload_n 3, 1) := by decide +kernel
theorem dX8_join_30 : decode cX8_join 30 = .ok (.if_icmp .ne 7, 3) := by decide +kernel
theorem dX8_join_33 : decode cX8_join 33 = .ok (.iconst 2, 1) := by decide +kernel
theorem dX8_join_34 : decode cX8_join 34 = .ok (.goto 4, 3) := by decide +kernel
theorem dX8_join_37 : decode cX8_join 37 = .ok (.iconst 0, 1) := by decide +kernel
theorem dX8_join_38 : decode cX8_join 38 = .ok (.putfield 140, 3) := by decide +kernel
theorem dX8_join_41 : decode cX8_join 41 = .ok (.aload_n 0, 1) := by decide +kernel
theorem dX8_join_42 : decode cX8_join 42 = .ok (.getfield 140, 3) := by decide +kernel
theorem dX8_join_45 : decode cX8_join 45 = .ok (.ifCond .le 5, 3) := by decide +kernel
theorem dX8_join_48 : decode cX8_join 48 = .ok (.iconst 0, 1) := by decide +kernel
theorem dX8_join_49 : decode cX8_join 49 = .ok (.ireturn, 1) := by decide +kernel
theorem dX8_join_50 : decode cX8_join 50 = .ok (.aload_n 0, 1) := by decide +kernel
theorem dX8_join_51 : decode cX8_join 51 = .ok (.aload_n 0, 1) := by decide +kernel
theorem dX8_join_52 : decode cX8_join 52 = .ok (.iload_n 2, 1) := by decide +kernel
theorem dX8_join_53 : decode cX8_join 53 = .ok (.invokevirtual 206, 3) := by decide +kernel
theorem dX8_join_56 : decode cX8_join 56 = .ok (.ifCond .eq 15, 3) := by decide +kernel
theorem dX8_join_59 : decode cX8_join 59 = .ok (.aload_n 0, 1) := by decide +kernel
theorem dX8_join_60 : decode cX8_join 60 = .ok (.iload_n 3, 1) := by decide +kernel
theorem dX8_join_61 : decode cX8_join 61 = .ok (.invokevirtual 206, 3) := by decide +kernel
theorem dX8_join_64 : decode cX8_join 64 = .ok (.ifCond .eq 7, 3) := by decide +kernel
theorem dX8_join_67 : decode cX8_join 67 = .ok (.iconst 0, 1) := by decide +kernel
theorem dX8_join_68 : decode cX8_join 68 = .ok (.goto 4, 3) := by decide +kernel
theorem dX8_join_71 : decode cX8_join 71 = .ok (.iconst 3, 1) := by decide +kernel
theorem dX8_join_72 : decode cX8_join 72 = .ok (.putfield 140, 3) := by decide +kernel
theorem dX8_join_75 : decode cX8_join 75 = .ok (.aload_n 0, 1) := by decide +kernel
theorem dX8_join_76 : decode cX8_join 76 = .ok (.getfield 140, 3) := by decide +kernel
theorem dX8_join_79 : decode cX8_join 79 = .ok (.ifCond .le 5, 3) := by decide +kernel
theorem dX8_join_82 : decode cX8_join 82 = .ok (.iconst 0, 1) := by decide +kernel
theorem dX8_join_83 : decode cX8_join 83 = .ok (.ireturn, 1) := by decide +kernel
theorem dX8_join_84 : decode cX8_join 84 = .ok (.aload_n 0, 1) := by decide +kernel
theorem dX8_join_85 : decode cX8_join 85 = .ok (.iload_n 1, 1) := by decide +kernel
theorem dX8_join_86 : decode cX8_join 86 = .ok (.iconst 5, 1) := by decide +kernel
theorem dX8_join_87 : decode cX8_join 87 = .ok (.iload_n 2, 1) := by decide +kernel
theorem dX8_join_88 : decode cX8_join 88 = .ok (.iload_n 3, 1) := by decide +kernel
theorem dX8_join_89 : decode cX8_join 89 = .ok (.iconst 0, 1) := by decide +kernel
theorem dX8_join_90 : decode cX8_join 90 = .ok (.invokevirtual 199, 3) := by decide +kernel
theorem dX8_join_93 : decode cX8_join 93 = .ok (.aload_n 0, 1) := by decide +kernel
theorem dX8_join_94 : decode cX8_join 94 = .ok (.iload_n 2, 1) := by decide +kernel
theorem dX8_join_95 : decode cX8_join 95 = .ok (.invokevirtual 209, 3) := by decide +kernel
theorem dX8_join_98 : decode cX8_join 98 = .ok (.ireturn, 1) := by decide +kernel
theorem dX8_part_0 : decode cX8_part 0 = .ok (.aload_n 0, 1) := by decide +kernel
theorem dX8_part_1 : decode cX8_part 1 = .ok (.aload_n 0, 1) := by decide +kernel
theorem dX8_part_2 : decode cX8_part 2 = .ok (.iload_n 1, 1) := by decide +kernel
theorem dX8_part_3 : decode cX8_part 3 = .ok (.iload_n 2, 1) := by decide +kernel
theorem dX8_part_4 : decode cX8_part 4 = .ok (.invokevirtual 213, 3) := by decide +kernel
theorem dX8_part_7 : decode cX8_part 7 = .ok (.putfield 140, 3) := by decide +kernel
theorem dX8_part_10 : decode cX8_part 10 = .ok (.aload_n 0, 1) := by decide +kernel
theorem dX8_part_11 : decode cX8_part 11 = .ok (.getfield 140, 3) := by decide +kernel
theorem dX8_part_14 : decode cX8_part 14 = .ok (.ifCond .le 5, 3) := by decide +kernel
theorem dX8_part_17 : decode cX8_part 17 = .ok (.iconst 0, 1) := by decide +kernel
theorem dX8_part_18 : decode cX8_part 18 = .ok (.ireturn, 1) := by decide +kernel
theorem dX8_part_19 : decode cX8_part 19 = .ok (.aload_n 0, 1) := by decide +kernel
theorem dX8_part_20 : decode cX8_part 20 = .ok (.iload_n 2, 1) := by decide +kernel
theorem dX8_part_21 : decode cX8_part 21 = .ok (.invokevirtual 209, 3) := by decide +kernel
theorem dX8_part_24 : decode cX8_part 24 = .ok (.iconst 1, 1) := by decide +kernel
theorem dX8_part_25 : decode cX8_part 25 = .ok (.isub, 1) := by decide +kernel
theorem dX8_part_26 : decode cX8_part 26 = .ok (.istore_n 3, 1) := by decide +kernel
theorem dX8_part_27 : decode cX8_part 27 = .ok (.aload_n 0, 1) := by decide +kernel
theorem dX8_part_28 : decode cX8_part 28 = .ok (.iload_n 1, 1) := by decide +kernel
theorem dX8_part_29 : decode cX8_part 29 = .ok (.bipush 6, 2) := by decide +kernel
theorem dX8_part_31 : decode cX8_part 31 = .ok (.iload_n 2, 1) := by decide +kernel
theorem dX8_part_32 : decode cX8_part 32 = .ok (.iconst 0, 1) := by decide +kernel
theorem dX8_part_33 : decode cX8_part 33 = .ok (.iconst 0, 1) := by decide +kernel
theorem dX8_part_34 : decode cX8_part 34 = .ok (.invokevirtual 199, 3) := by decide +kernel
theorem dX8_part_37 : decode cX8_part 37 = .ok (.iload_n 3, 1) := by decide +kernel
theorem dX8_part_38 : decode cX8_part 38 = .ok (.ireturn, 1) := by decide +kernel
theorem dX8_drop_0 : decode cX8_drop 0 = .ok (.aload_n 0, 1) := by decide +kernel
theorem dX8_drop_1 : decode cX8_drop 1 = .ok (.aload_n 0, 1) := by decide +kernel
theorem dX8_drop_2 : decode cX8_drop 2 = .ok (.iload_n 1, 1) := by decide +kernel
theorem dX8_drop_3 : decode cX8_drop 3 = .ok (.iload_n 2, 1) := by decide +kernel
theorem dX8_drop_4 : decode cX8_drop 4 = .ok (.invokevirtual 213, 3) := by decide +kernel
theorem dX8_drop_7 : decode cX8_drop 7 = .ok (.putfield 140, 3) := by decide +kernel
theorem dX8_drop_10 : decode cX8_drop 10 = .ok (.aload_n 0, 1) := by decide +kernel
theorem dX8_drop_11 : decode cX8_drop 11 = .ok (.getfield 140, 3) := by decide +kernel
theorem dX8_drop_14 : decode cX8_drop 14 = .ok (.ifCond .le 5, 3) := by decide +kernel
theorem dX8_drop_17 : decode cX8_drop 17 = .ok (.iconst 0, 1) := by decide +kernel
theorem dX8_drop_18 : decode cX8_drop 18 = .ok (.ireturn, 1) := by decide +kernel
theorem dX8_drop_19 : decode cX8_drop 19 = .ok (.aload_n 0, 1) := by decide +kernel
theorem dX8_drop_20 : decode cX8_drop 20 = .ok (.iload_n 1, 1) := by decide +kernel
theorem dX8_drop_21 : decode cX8_drop 21 = .ok (.bipush 7, 2) := by decide +kernel
theorem dX8_drop_23 : decode cX8_drop 23 = .ok (.iload_n 2, 1) := by decide +kernel
theorem dX8_drop_24 : decode cX8_drop 24 = .ok (.iconst 0, 1) := by decide +kernel
theorem dX8_drop_25 : decode cX8_drop 25 = .ok (.iconst 0, 1) := by decide +kernel
theorem dX8_drop_26 : decode cX8_drop 26 = .ok (.invokevirtual 199, 3) := by decide +kernel
theorem dX8_drop_29 : decode cX8_drop 29 = .ok (.aload_n 0, 1) := by decide +kernel
theorem dX8_drop_30 : decode cX8_drop 30 = .ok (.getfield 161, 3) := by decide +kernel
theorem dX8_drop_33 : decode cX8_drop 33 = .ok (.ireturn, 1) := by decide +kernel
theorem dX8_holderOf_0 : decode cX8_holderOf 0 = .ok (.iconst (-1), 1) := by decide +kernel
theorem dX8_holderOf_1 : decode cX8_holderOf 1 = .ok (.istore_n 2, 1) := by decide +kernel
theorem dX8_holderOf_2 : decode cX8_holderOf 2 = .ok (.aload_n 0, 1) := by decide +kernel
theorem dX8_holderOf_3 : decode cX8_holderOf 3 = .ok (.getfield 154, 3) := by decide +kernel
theorem dX8_holderOf_6 : decode cX8_holderOf 6 = .ok (.iconst 1, 1) := by decide +kernel
theorem dX8_holderOf_7 : decode cX8_holderOf 7 = .ok (.isub, 1) := by decide +kernel
theorem dX8_holderOf_8 : decode cX8_holderOf 8 = .ok (.istore_n 3, 1) := by decide +kernel
theorem dX8_holderOf_9 : decode cX8_holderOf 9 = .ok (.iload_n 3, 1) := by decide +kernel
theorem dX8_holderOf_10 : decode cX8_holderOf 10 = .ok (.ifCond .lt 30, 3) := by decide +kernel
theorem dX8_holderOf_13 : decode cX8_holderOf 13 = .ok (.aload_n 0, 1) := by decide +kernel
theorem dX8_holderOf_14 : decode cX8_holderOf 14 = .ok (.getfield 104, 3) := by decide +kernel
theorem dX8_holderOf_17 : decode cX8_holderOf 17 = .ok (.sipush 200, 3) := by decide +kernel
theorem dX8_holderOf_20 : decode cX8_holderOf 20 = .ok (.iload_n 3, 1) := by decide +kernel
theorem dX8_holderOf_21 : decode cX8_holderOf 21 = .ok (.imul, 1) := by decide +kernel
theorem dX8_holderOf_22 : decode cX8_holderOf 22 = .ok (.iload_n 1, 1) := by decide +kernel
theorem dX8_holderOf_23 : decode cX8_holderOf 23 = .ok (.iadd, 1) := by decide +kernel
theorem dX8_holderOf_24 : decode cX8_holderOf 24 = .ok (.baload, 1) := by decide +kernel
theorem dX8_holderOf_25 : decode cX8_holderOf 25 = .ok (.ifCond .eq 7, 3) := by decide +kernel
theorem dX8_holderOf_28 : decode cX8_holderOf 28 = .ok (.iload_n 3, 1) := by decide +kernel
theorem dX8_holderOf_29 : decode cX8_holderOf 29 = .ok (.goto 4, 3) := by decide +kernel
theorem dX8_holderOf_32 : decode cX8_holderOf 32 = .ok (.iload_n 2, 1) := by decide +kernel
theorem dX8_holderOf_33 : decode cX8_holderOf 33 = .ok (.istore_n 2, 1) := by decide +kernel
theorem dX8_holderOf_34 : decode cX8_holderOf 34 = .ok (.iinc 3 (-1), 3) := by decide +kernel
theorem dX8_holderOf_37 : decode cX8_holderOf 37 = .ok (.goto (-28), 3) := by decide +kernel
theorem dX8_holderOf_40 : decode cX8_holderOf 40 = .ok (.iload_n 2, 1) := by decide +kernel
theorem dX8_holderOf_41 : decode cX8_holderOf 41 = .ok (.ireturn, 1) := by decide +kernel
theorem dX8_undo_0 : decode cX8_undo 0 = .ok (.aload_n 0, 1) := by decide +kernel
theorem dX8_undo_1 : decode cX8_undo 1 = .ok (.iload_n 1, 1) := by decide +kernel
theorem dX8_undo_2 : decode cX8_undo 2 = .ok (.invokestatic 196, 3) := by decide +kernel
theorem dX8_undo_5 : decode cX8_undo 5 = .ok (.ifCond .eq 7, 3) := by decide +kernel
theorem dX8_undo_8 : decode cX8_undo 8 = .ok (.iconst 0, 1) := by decide +kernel
theorem dX8_undo_9 : decode cX8_undo 9 = .ok (.goto 4, 3) := by decide +kernel
theorem dX8_undo_12 : decode cX8_undo 12 = .ok (.iconst 1, 1) := by decide +kernel
theorem dX8_undo_13 : decode cX8_undo 13 = .ok (.putfield 140, 3) := by decide +kernel
theorem dX8_undo_16 : decode cX8_undo 16 = .ok (.aload_n 0, 1) := by decide +kernel
theorem dX8_undo_17 : decode cX8_undo 17 = .ok (.getfield 140, 3) := by decide +kernel
theorem dX8_undo_20 : decode cX8_undo 20 = .ok (.ifCond .le 5, 3) := by decide +kernel
theorem dX8_undo_23 : decode cX8_undo 23 = .ok (.iconst 0, 1) := by decide +kernel
theorem dX8_undo_24 : decode cX8_undo 24 = .ok (.ireturn, 1) := by decide +kernel
theorem dX8_undo_25 : decode cX8_undo 25 = .ok (.iconst (-1), 1) := by decide +kernel
theorem dX8_undo_26 : decode cX8_undo 26 = .ok (.istore_n 2, 1) := by decide +kernel
theorem dX8_undo_27 : decode cX8_undo 27 = .ok (.iconst 0, 1) := by decide +kernel
theorem dX8_undo_28 : decode cX8_undo 28 = .ok (.istore_n 3, 1) := by decide +kernel
theorem dX8_undo_29 : decode cX8_undo 29 = .ok (.iload_n 3, 1) := by decide +kernel
theorem dX8_undo_30 : decode cX8_undo 30 = .ok (.aload_n 0, 1) := by decide +kernel
theorem dX8_undo_31 : decode cX8_undo 31 = .ok (.getfield 151, 3) := by decide +kernel
theorem dX8_undo_34 : decode cX8_undo 34 = .ok (.if_icmp .ge 34, 3) := by decide +kernel
theorem dX8_undo_37 : decode cX8_undo 37 = .ok (.aload_n 0, 1) := by decide +kernel
theorem dX8_undo_38 : decode cX8_undo 38 = .ok (.getfield 25, 3) := by decide +kernel
theorem dX8_undo_41 : decode cX8_undo 41 = .ok (.iload_n 3, 1) := by decide +kernel
theorem dX8_undo_42 : decode cX8_undo 42 = .ok (.baload, 1) := by decide +kernel
theorem dX8_undo_43 : decode cX8_undo 43 = .ok (.ifCond .eq 17, 3) := by decide +kernel
theorem dX8_undo_46 : decode cX8_undo 46 = .ok (.aload_n 0, 1) := by decide +kernel
theorem dX8_undo_47 : decode cX8_undo 47 = .ok (.getfield 13, 3) := by decide +kernel
theorem dX8_undo_50 : decode cX8_undo 50 = .ok (.iload_n 3, 1) := by decide +kernel
theorem dX8_undo_51 : decode cX8_undo 51 = .ok (.iaload, 1) := by decide +kernel
theorem dX8_undo_52 : decode cX8_undo 52 = .ok (.iload_n 1, 1) := by decide +kernel
theorem dX8_undo_53 : decode cX8_undo 53 = .ok (.if_icmp .ne 7, 3) := by decide +kernel
theorem dX8_undo_56 : decode cX8_undo 56 = .ok (.iload_n 3, 1) := by decide +kernel
theorem dX8_undo_57 : decode cX8_undo 57 = .ok (.goto 4, 3) := by decide +kernel
theorem dX8_undo_60 : decode cX8_undo 60 = .ok (.iload_n 2, 1) := by decide +kernel
theorem dX8_undo_61 : decode cX8_undo 61 = .ok (.istore_n 2, 1) := by decide +kernel
theorem dX8_undo_62 : decode cX8_undo 62 = .ok (.iinc 3 1, 3) := by decide +kernel
theorem dX8_undo_65 : decode cX8_undo 65 = .ok (.goto (-36), 3) := by decide +kernel
theorem dX8_undo_68 : decode cX8_undo 68 = .ok (.aload_n 0, 1) := by decide +kernel
theorem dX8_undo_69 : decode cX8_undo 69 = .ok (.iload_n 2, 1) := by decide +kernel
theorem dX8_undo_70 : decode cX8_undo 70 = .ok (.iconst (-1), 1) := by decide +kernel
theorem dX8_undo_71 : decode cX8_undo 71 = .ok (.if_icmp .eq 21, 3) := by decide +kernel
theorem dX8_undo_74 : decode cX8_undo 74 = .ok (.aload_n 0, 1) := by decide +kernel
theorem dX8_undo_75 : decode cX8_undo 75 = .ok (.iload_n 2, 1) := by decide +kernel
theorem dX8_undo_76 : decode cX8_undo 76 = .ok (.iconst (-1), 1) := by decide +kernel
theorem dX8_undo_77 : decode cX8_undo 77 = .ok (.if_icmp .ne 7, 3) := by decide +kernel
theorem dX8_undo_80 : decode cX8_undo 80 = .ok (.iconst 0, 1) := by decide +kernel
theorem dX8_undo_81 : decode cX8_undo 81 = .ok (.goto 4, 3) := by decide +kernel
theorem dX8_undo_84 : decode cX8_undo 84 = .ok (.iload_n 2, 1) := by decide +kernel
theorem dX8_undo_85 : decode cX8_undo 85 = .ok (.invokevirtual 217, 3) := by decide +kernel
theorem dX8_undo_88 : decode cX8_undo 88 = .ok (.iconst (-1), 1) := by decide +kernel
theorem dX8_undo_89 : decode cX8_undo 89 = .ok (.if_icmp .eq 7, 3) := by decide +kernel
theorem dX8_undo_92 : decode cX8_undo 92 = .ok (.iconst 2, 1) := by decide +kernel
theorem dX8_undo_93 : decode cX8_undo 93 = .ok (.goto 4, 3) := by decide +kernel
theorem dX8_undo_96 : decode cX8_undo 96 = .ok (.iconst 0, 1) := by decide +kernel
theorem dX8_undo_97 : decode cX8_undo 97 = .ok (.putfield 140, 3) := by decide +kernel
theorem dX8_undo_100 : decode cX8_undo 100 = .ok (.aload_n 0, 1) := by decide +kernel
theorem dX8_undo_101 : decode cX8_undo 101 = .ok (.getfield 140, 3) := by decide +kernel
theorem dX8_undo_104 : decode cX8_undo 104 = .ok (.ifCond .le 5, 3) := by decide +kernel
theorem dX8_undo_107 : decode cX8_undo 107 = .ok (.iconst 0, 1) := by decide +kernel
theorem dX8_undo_108 : decode cX8_undo 108 = .ok (.ireturn, 1) := by decide +kernel
theorem dX8_undo_109 : decode cX8_undo 109 = .ok (.aload_n 0, 1) := by decide +kernel
theorem dX8_undo_110 : decode cX8_undo 110 = .ok (.getfield 25, 3) := by decide +kernel
theorem dX8_undo_113 : decode cX8_undo 113 = .ok (.iload_n 2, 1) := by decide +kernel
theorem dX8_undo_114 : decode cX8_undo 114 = .ok (.iconst 0, 1) := by decide +kernel
theorem dX8_undo_115 : decode cX8_undo 115 = .ok (.bastore, 1) := by decide +kernel
theorem dX8_undo_116 : decode cX8_undo 116 = .ok (.aload_n 0, 1) := by decide +kernel
theorem dX8_undo_117 : decode cX8_undo 117 = .ok (.getfield 29, 3) := by decide +kernel
theorem dX8_undo_120 : decode cX8_undo 120 = .ok (.sipush 200, 3) := by decide +kernel
theorem dX8_undo_123 : decode cX8_undo 123 = .ok (.iload_n 1, 1) := by decide +kernel
theorem dX8_undo_124 : decode cX8_undo 124 = .ok (.imul, 1) := by decide +kernel
theorem dX8_undo_125 : decode cX8_undo 125 = .ok (.aload_n 0, 1) := by decide +kernel
theorem dX8_undo_126 : decode cX8_undo 126 = .ok (.getfield 32, 3) := by decide +kernel
theorem dX8_undo_129 : decode cX8_undo 129 = .ok (.iload_n 1, 1) := by decide +kernel
theorem dX8_undo_130 : decode cX8_undo 130 = .ok (.iaload, 1) := by decide +kernel
theorem dX8_undo_131 : decode cX8_undo 131 = .ok (.iadd, 1) := by decide +kernel
theorem dX8_undo_132 : decode cX8_undo 132 = .ok (.iload_n 2, 1) := by decide +kernel
theorem dX8_undo_133 : decode cX8_undo 133 = .ok (.iastore, 1) := by decide +kernel
theorem dX8_undo_134 : decode cX8_undo 134 = .ok (.aload_n 0, 1) := by decide +kernel
theorem dX8_undo_135 : decode cX8_undo 135 = .ok (.getfield 32, 3) := by decide +kernel
theorem dX8_undo_138 : decode cX8_undo 138 = .ok (.iload_n 1, 1) := by decide +kernel
theorem dX8_undo_139 : decode cX8_undo 139 = .ok (.dup2, 1) := by decide +kernel
theorem dX8_undo_140 : decode cX8_undo 140 = .ok (.iaload, 1) := by decide +kernel
theorem dX8_undo_141 : decode cX8_undo 141 = .ok (.iconst 1, 1) := by decide +kernel
theorem dX8_undo_142 : decode cX8_undo 142 = .ok (.iadd, 1) := by decide +kernel
theorem dX8_undo_143 : decode cX8_undo 143 = .ok (.iastore, 1) := by decide +kernel
theorem dX8_undo_144 : decode cX8_undo 144 = .ok (.aload_n 0, 1) := by decide +kernel
theorem dX8_undo_145 : decode cX8_undo 145 = .ok (.invokevirtual 193, 3) := by decide +kernel
theorem dX8_undo_148 : decode cX8_undo 148 = .ok (.iload_n 2, 1) := by decide +kernel
theorem dX8_undo_149 : decode cX8_undo 149 = .ok (.ireturn, 1) := by decide +kernel
theorem dX8_redo_0 : decode cX8_redo 0 = .ok (.aload_n 0, 1) := by decide +kernel
theorem dX8_redo_1 : decode cX8_redo 1 = .ok (.iload_n 1, 1) := by decide +kernel
theorem dX8_redo_2 : decode cX8_redo 2 = .ok (.invokestatic 196, 3) := by decide +kernel
theorem dX8_redo_5 : decode cX8_redo 5 = .ok (.ifCond .eq 7, 3) := by decide +kernel
theorem dX8_redo_8 : decode cX8_redo 8 = .ok (.iconst 0, 1) := by decide +kernel
theorem dX8_redo_9 : decode cX8_redo 9 = .ok (.goto 4, 3) := by decide +kernel
theorem dX8_redo_12 : decode cX8_redo 12 = .ok (.iconst 1, 1) := by decide +kernel
theorem dX8_redo_13 : decode cX8_redo 13 = .ok (.putfield 140, 3) := by decide +kernel
theorem dX8_redo_16 : decode cX8_redo 16 = .ok (.aload_n 0, 1) := by decide +kernel
theorem dX8_redo_17 : decode cX8_redo 17 = .ok (.getfield 140, 3) := by decide +kernel
theorem dX8_redo_20 : decode cX8_redo 20 = .ok (.ifCond .le 5, 3) := by decide +kernel
theorem dX8_redo_23 : decode cX8_redo 23 = .ok (.iconst 0, 1) := by decide +kernel
theorem dX8_redo_24 : decode cX8_redo 24 = .ok (.ireturn, 1) := by decide +kernel
theorem dX8_redo_25 : decode cX8_redo 25 = .ok (.aload_n 0, 1) := by decide +kernel
theorem dX8_redo_26 : decode cX8_redo 26 = .ok (.aload_n 0, 1) := by decide +kernel
theorem dX8_redo_27 : decode cX8_redo 27 = .ok (.getfield 32, 3) := by decide +kernel
theorem dX8_redo_30 : decode cX8_redo 30 = .ok (.iload_n 1, 1) := by decide +kernel
theorem dX8_redo_31 : decode cX8_redo 31 = .ok (.iaload, 1) := by decide +kernel
theorem dX8_redo_32 : decode cX8_redo 32 = .ok (.ifCond .ne 7, 3) := by decide +kernel
theorem dX8_redo_35 : decode cX8_redo 35 = .ok (.iconst 2, 1) := by decide +kernel
theorem dX8_redo_36 : decode cX8_redo 36 = .ok (.goto 4, 3) := by decide +kernel
theorem dX8_redo_39 : decode cX8_redo 39 = .ok (.iconst 0, 1) := by decide +kernel
theorem dX8_redo_40 : decode cX8_redo 40 = .ok (.putfield 140, 3) := by decide +kernel
theorem dX8_redo_43 : decode cX8_redo 43 = .ok (.aload_n 0, 1) := by decide +kernel
theorem dX8_redo_44 : decode cX8_redo 44 = .ok (.getfield 140, 3) := by decide +kernel
theorem dX8_redo_47 : decode cX8_redo 47 = .ok (.ifCond .le 5, 3) := by decide +kernel
theorem dX8_redo_50 : decode cX8_redo 50 = .ok (.iconst 0, 1) := by decide +kernel
theorem dX8_redo_51 : decode cX8_redo 51 = .ok (.ireturn, 1) := by decide +kernel
theorem dX8_redo_52 : decode cX8_redo 52 = .ok (.aload_n 0, 1) := by decide +kernel
theorem dX8_redo_53 : decode cX8_redo 53 = .ok (.getfield 32, 3) := by decide +kernel
theorem dX8_redo_56 : decode cX8_redo 56 = .ok (.iload_n 1, 1) := by decide +kernel
theorem dX8_redo_57 : decode cX8_redo 57 = .ok (.dup2, 1) := by decide +kernel
theorem dX8_redo_58 : decode cX8_redo 58 = .ok (.iaload, 1) := by decide +kernel
theorem dX8_redo_59 : decode cX8_redo 59 = .ok (.iconst 1, 1) := by decide +kernel
theorem dX8_redo_60 : decode cX8_redo 60 = .ok (.isub, 1) := by decide +kernel
theorem dX8_redo_61 : decode cX8_redo 61 = .ok (.iastore, 1) := by decide +kernel
theorem dX8_redo_62 : decode cX8_redo 62 = .ok (.aload_n 0, 1) := by decide +kernel
theorem dX8_redo_63 : decode cX8_redo 63 = .ok (.getfield 29, 3) := by decide +kernel
theorem dX8_redo_66 : decode cX8_redo 66 = .ok (.sipush 200, 3) := by decide +kernel
theorem dX8_redo_69 : decode cX8_redo 69 = .ok (.iload_n 1, 1) := by decide +kernel
theorem dX8_redo_70 : decode cX8_redo 70 = .ok (.imul, 1) := by decide +kernel
theorem dX8_redo_71 : decode cX8_redo 71 = .ok (.aload_n 0, 1) := by decide +kernel
theorem dX8_redo_72 : decode cX8_redo 72 = .ok (.getfield 32, 3) := by decide +kernel
theorem dX8_redo_75 : decode cX8_redo 75 = .ok (.iload_n 1, 1) := by decide +kernel
theorem dX8_redo_76 : decode cX8_redo 76 = .ok (.iaload, 1) := by decide +kernel
theorem dX8_redo_77 : decode cX8_redo 77 = .ok (.iadd, 1) := by decide +kernel
theorem dX8_redo_78 : decode cX8_redo 78 = .ok (.iaload, 1) := by decide +kernel
theorem dX8_redo_79 : decode cX8_redo 79 = .ok (.istore_n 2, 1) := by decide +kernel
theorem dX8_redo_80 : decode cX8_redo 80 = .ok (.aload_n 0, 1) := by decide +kernel
theorem dX8_redo_81 : decode cX8_redo 81 = .ok (.getfield 25, 3) := by decide +kernel
theorem dX8_redo_84 : decode cX8_redo 84 = .ok (.iload_n 2, 1) := by decide +kernel
theorem dX8_redo_85 : decode cX8_redo 85 = .ok (.iconst 1, 1) := by decide +kernel
theorem dX8_redo_86 : decode cX8_redo 86 = .ok (.bastore, 1) := by decide +kernel
theorem dX8_redo_87 : decode cX8_redo 87 = .ok (.aload_n 0, 1) := by decide +kernel
theorem dX8_redo_88 : decode cX8_redo 88 = .ok (.invokevirtual 193, 3) := by decide +kernel
theorem dX8_redo_91 : decode cX8_redo 91 = .ok (.iload_n 2, 1) := by decide +kernel
theorem dX8_redo_92 : decode cX8_redo 92 = .ok (.ireturn, 1) := by decide +kernel
theorem dX8_acts_0 : decode cX8_acts 0 = .ok (.aload_n 0, 1) := by decide +kernel
theorem dX8_acts_1 : decode cX8_acts 1 = .ok (.iconst 0, 1) := by decide +kernel
theorem dX8_acts_2 : decode cX8_acts 2 = .ok (.putfield 140, 3) := by decide +kernel
theorem dX8_acts_5 : decode cX8_acts 5 = .ok (.aload_n 0, 1) := by decide +kernel
theorem dX8_acts_6 : decode cX8_acts 6 = .ok (.getfield 151, 3) := by decide +kernel
theorem dX8_acts_9 : decode cX8_acts 9 = .ok (.ireturn, 1) := by decide +kernel
theorem dX8_isLive_0 : decode cX8_isLive 0 = .ok (.aload_n 0, 1) := by decide +kernel
theorem dX8_isLive_1 : decode cX8_isLive 1 = .ok (.aload_n 0, 1) := by decide +kernel
theorem dX8_isLive_2 : decode cX8_isLive 2 = .ok (.iload_n 1, 1) := by decide +kernel
theorem dX8_isLive_3 : decode cX8_isLive 3 = .ok (.invokevirtual 220, 3) := by decide +kernel
theorem dX8_isLive_6 : decode cX8_isLive 6 = .ok (.ifCond .eq 7, 3) := by decide +kernel
theorem dX8_isLive_9 : decode cX8_isLive 9 = .ok (.iconst 0, 1) := by decide +kernel
theorem dX8_isLive_10 : decode cX8_isLive 10 = .ok (.goto 4, 3) := by decide +kernel
theorem dX8_isLive_13 : decode cX8_isLive 13 = .ok (.iconst 1, 1) := by decide +kernel
theorem dX8_isLive_14 : decode cX8_isLive 14 = .ok (.putfield 140, 3) := by decide +kernel
theorem dX8_isLive_17 : decode cX8_isLive 17 = .ok (.aload_n 0, 1) := by decide +kernel
theorem dX8_isLive_18 : decode cX8_isLive 18 = .ok (.getfield 140, 3) := by decide +kernel
theorem dX8_isLive_21 : decode cX8_isLive 21 = .ok (.ifCond .ne 16, 3) := by decide +kernel
theorem dX8_isLive_24 : decode cX8_isLive 24 = .ok (.aload_n 0, 1) := by decide +kernel
theorem dX8_isLive_25 : decode cX8_isLive 25 = .ok (.getfield 25, 3) := by decide +kernel
theorem dX8_isLive_28 : decode cX8_isLive 28 = .ok (.iload_n 1, 1) := by decide +kernel
theorem dX8_isLive_29 : decode cX8_isLive 29 = .ok (.baload, 1) := by decide +kernel
theorem dX8_isLive_30 : decode cX8_isLive 30 = .ok (.ifCond .eq 7, 3) := by decide +kernel
theorem dX8_isLive_33 : decode cX8_isLive 33 = .ok (.iconst 1, 1) := by decide +kernel
theorem dX8_isLive_34 : decode cX8_isLive 34 = .ok (.goto 4, 3) := by decide +kernel
theorem dX8_isLive_37 : decode cX8_isLive 37 = .ok (.iconst 0, 1) := by decide +kernel
theorem dX8_isLive_38 : decode cX8_isLive 38 = .ok (.ireturn, 1) := by decide +kernel
theorem dX8_holder_0 : decode cX8_holder 0 = .ok (.aload_n 0, 1) := by decide +kernel
theorem dX8_holder_1 : decode cX8_holder 1 = .ok (.aload_n 0, 1) := by decide +kernel
theorem dX8_holder_2 : decode cX8_holder 2 = .ok (.iload_n 1, 1) := by decide +kernel
theorem dX8_holder_3 : decode cX8_holder 3 = .ok (.invokevirtual 220, 3) := by decide +kernel
theorem dX8_holder_6 : decode cX8_holder 6 = .ok (.ifCond .eq 7, 3) := by decide +kernel
theorem dX8_holder_9 : decode cX8_holder 9 = .ok (.iconst 0, 1) := by decide +kernel
theorem dX8_holder_10 : decode cX8_holder 10 = .ok (.goto 4, 3) := by decide +kernel
theorem dX8_holder_13 : decode cX8_holder 13 = .ok (.iconst 1, 1) := by decide +kernel
theorem dX8_holder_14 : decode cX8_holder 14 = .ok (.putfield 140, 3) := by decide +kernel
theorem dX8_holder_17 : decode cX8_holder 17 = .ok (.aload_n 0, 1) := by decide +kernel
theorem dX8_holder_18 : decode cX8_holder 18 = .ok (.getfield 140, 3) := by decide +kernel
theorem dX8_holder_21 : decode cX8_holder 21 = .ok (.ifCond .le 7, 3) := by decide +kernel
theorem dX8_holder_24 : decode cX8_holder 24 = .ok (.iconst 0, 1) := by decide +kernel
theorem dX8_holder_25 : decode cX8_holder 25 = .ok (.goto 8, 3) := by decide +kernel
theorem dX8_holder_28 : decode cX8_holder 28 = .ok (.aload_n 0, 1) := by decide +kernel
theorem dX8_holder_29 : decode cX8_holder 29 = .ok (.iload_n 1, 1) := by decide +kernel
theorem dX8_holder_30 : decode cX8_holder 30 = .ok (.invokevirtual 217, 3) := by decide +kernel
theorem dX8_holder_33 : decode cX8_holder 33 = .ok (.ireturn, 1) := by decide +kernel
theorem dX8_shapes_0 : decode cX8_shapes 0 = .ok (.aload_n 0, 1) := by decide +kernel
theorem dX8_shapes_1 : decode cX8_shapes 1 = .ok (.iconst 0, 1) := by decide +kernel
theorem dX8_shapes_2 : decode cX8_shapes 2 = .ok (.putfield 140, 3) := by decide +kernel
theorem dX8_shapes_5 : decode cX8_shapes 5 = .ok (.aload_n 0, 1) := by decide +kernel
theorem dX8_shapes_6 : decode cX8_shapes 6 = .ok (.getfield 148, 3) := by decide +kernel
theorem dX8_shapes_9 : decode cX8_shapes 9 = .ok (.ireturn, 1) := by decide +kernel
theorem dX8_there_0 : decode cX8_there 0 = .ok (.aload_n 0, 1) := by decide +kernel
theorem dX8_there_1 : decode cX8_there 1 = .ok (.iconst 0, 1) := by decide +kernel
theorem dX8_there_2 : decode cX8_there 2 = .ok (.putfield 140, 3) := by decide +kernel
theorem dX8_there_5 : decode cX8_there 5 = .ok (.lconst 0, 1) := by decide +kernel
theorem dX8_there_6 : decode cX8_there 6 = .ok (.lstore_n 1, 1) := by decide +kernel
theorem dX8_there_7 : decode cX8_there 7 = .ok (.iconst 0, 1) := by decide +kernel
theorem dX8_there_8 : decode cX8_there 8 = .ok (.istore_n 3, 1) := by decide +kernel
theorem dX8_there_9 : decode cX8_there 9 = .ok (.iload_n 3, 1) := by decide +kernel
theorem dX8_there_10 : decode cX8_there 10 = .ok (.aload_n 0, 1) := by decide +kernel
theorem dX8_there_11 : decode cX8_there 11 = .ok (.getfield 148, 3) := by decide +kernel
theorem dX8_there_14 : decode cX8_there 14 = .ok (.if_icmp .ge 28, 3) := by decide +kernel
theorem dX8_there_17 : decode cX8_there 17 = .ok (.lload_n 1, 1) := by decide +kernel
theorem dX8_there_18 : decode cX8_there 18 = .ok (.aload_n 0, 1) := by decide +kernel
theorem dX8_there_19 : decode cX8_there 19 = .ok (.getfield 59, 3) := by decide +kernel
theorem dX8_there_22 : decode cX8_there 22 = .ok (.iload_n 3, 1) := by decide +kernel
theorem dX8_there_23 : decode cX8_there 23 = .ok (.baload, 1) := by decide +kernel
theorem dX8_there_24 : decode cX8_there 24 = .ok (.ifCond .eq 9, 3) := by decide +kernel
theorem dX8_there_27 : decode cX8_there 27 = .ok (.lconst 1, 1) := by decide +kernel
theorem dX8_there_28 : decode cX8_there 28 = .ok (.iload_n 3, 1) := by decide +kernel
theorem dX8_there_29 : decode cX8_there 29 = .ok (.lshl, 1) := by decide +kernel
theorem dX8_there_30 : decode cX8_there 30 = .ok (.goto 4, 3) := by decide +kernel
theorem dX8_there_33 : decode cX8_there 33 = .ok (.lconst 0, 1) := by decide +kernel
theorem dX8_there_34 : decode cX8_there 34 = .ok (.lor, 1) := by decide +kernel
theorem dX8_there_35 : decode cX8_there 35 = .ok (.lstore_n 1, 1) := by decide +kernel
theorem dX8_there_36 : decode cX8_there 36 = .ok (.iinc 3 1, 3) := by decide +kernel
theorem dX8_there_39 : decode cX8_there 39 = .ok (.goto (-30), 3) := by decide +kernel
theorem dX8_there_42 : decode cX8_there 42 = .ok (.lload_n 1, 1) := by decide +kernel
theorem dX8_there_43 : decode cX8_there 43 = .ok (.lreturn, 1) := by decide +kernel
theorem dX8_place_0 : decode cX8_place 0 = .ok (.aload_n 0, 1) := by decide +kernel
theorem dX8_place_1 : decode cX8_place 1 = .ok (.aload_n 0, 1) := by decide +kernel
theorem dX8_place_2 : decode cX8_place 2 = .ok (.iload_n 1, 1) := by decide +kernel
theorem dX8_place_3 : decode cX8_place 3 = .ok (.invokevirtual 203, 3) := by decide +kernel
theorem dX8_place_6 : decode cX8_place 6 = .ok (.ifCond .eq 7, 3) := by decide +kernel
theorem dX8_place_9 : decode cX8_place 9 = .ok (.iconst 0, 1) := by decide +kernel
theorem dX8_place_10 : decode cX8_place 10 = .ok (.goto 4, 3) := by decide +kernel
theorem dX8_place_13 : decode cX8_place 13 = .ok (.iconst 1, 1) := by decide +kernel
theorem dX8_place_14 : decode cX8_place 14 = .ok (.putfield 140, 3) := by decide +kernel
theorem dX8_place_17 : decode cX8_place 17 = .ok (.aload_n 0, 1) := by decide +kernel
theorem dX8_place_18 : decode cX8_place 18 = .ok (.getfield 140, 3) := by decide +kernel
theorem dX8_place_21 : decode cX8_place 21 = .ok (.ifCond .le 5, 3) := by decide +kernel
theorem dX8_place_24 : decode cX8_place 24 = .ok (.iconst 0, 1) := by decide +kernel
theorem dX8_place_25 : decode cX8_place 25 = .ok (.ireturn, 1) := by decide +kernel
theorem dX8_place_26 : decode cX8_place 26 = .ok (.aload_n 0, 1) := by decide +kernel
theorem dX8_place_27 : decode cX8_place 27 = .ok (.aload_n 0, 1) := by decide +kernel
theorem dX8_place_28 : decode cX8_place 28 = .ok (.getfield 59, 3) := by decide +kernel
theorem dX8_place_31 : decode cX8_place 31 = .ok (.iload_n 1, 1) := by decide +kernel
theorem dX8_place_32 : decode cX8_place 32 = .ok (.baload, 1) := by decide +kernel
theorem dX8_place_33 : decode cX8_place 33 = .ok (.ifCond .eq 7, 3) := by decide +kernel
theorem dX8_place_36 : decode cX8_place 36 = .ok (.iconst 0, 1) := by decide +kernel
theorem dX8_place_37 : decode cX8_place 37 = .ok (.goto 4, 3) := by decide +kernel
theorem dX8_place_40 : decode cX8_place 40 = .ok (.iconst 2, 1) := by decide +kernel
theorem dX8_place_41 : decode cX8_place 41 = .ok (.putfield 140, 3) := by decide +kernel
theorem dX8_place_44 : decode cX8_place 44 = .ok (.aload_n 0, 1) := by decide +kernel
theorem dX8_place_45 : decode cX8_place 45 = .ok (.getfield 140, 3) := by decide +kernel
theorem dX8_place_48 : decode cX8_place 48 = .ok (.ifCond .le 7, 3) := by decide +kernel
theorem dX8_place_51 : decode cX8_place 51 = .ok (.iconst 0, 1) := by decide +kernel
theorem dX8_place_52 : decode cX8_place 52 = .ok (.goto 20, 3) := by decide +kernel
theorem dX8_place_55 : decode cX8_place 55 = .ok (.sipush 10000, 3) := by decide +kernel
theorem dX8_place_58 : decode cX8_place 58 = .ok (.aload_n 0, 1) := by decide +kernel
theorem dX8_place_59 : decode cX8_place 59 = .ok (.getfield 65, 3) := by decide +kernel
theorem dX8_place_62 : decode cX8_place 62 = .ok (.iload_n 1, 1) := by decide +kernel
theorem dX8_place_63 : decode cX8_place 63 = .ok (.iaload, 1) := by decide +kernel
theorem dX8_place_64 : decode cX8_place 64 = .ok (.imul, 1) := by decide +kernel
theorem dX8_place_65 : decode cX8_place 65 = .ok (.aload_n 0, 1) := by decide +kernel
theorem dX8_place_66 : decode cX8_place 66 = .ok (.getfield 62, 3) := by decide +kernel
theorem dX8_place_69 : decode cX8_place 69 = .ok (.iload_n 1, 1) := by decide +kernel
theorem dX8_place_70 : decode cX8_place 70 = .ok (.iaload, 1) := by decide +kernel
theorem dX8_place_71 : decode cX8_place 71 = .ok (.iadd, 1) := by decide +kernel
theorem dX8_place_72 : decode cX8_place 72 = .ok (.ireturn, 1) := by decide +kernel
theorem dX8_colour_0 : decode cX8_colour 0 = .ok (.aload_n 0, 1) := by decide +kernel
theorem dX8_colour_1 : decode cX8_colour 1 = .ok (.aload_n 0, 1) := by decide +kernel
theorem dX8_colour_2 : decode cX8_colour 2 = .ok (.iload_n 1, 1) := by decide +kernel
theorem dX8_colour_3 : decode cX8_colour 3 = .ok (.invokevirtual 203, 3) := by decide +kernel
theorem dX8_colour_6 : decode cX8_colour 6 = .ok (.ifCond .eq 7, 3) := by decide +kernel
theorem dX8_colour_9 : decode cX8_colour 9 = .ok (.iconst 0, 1) := by decide +kernel
theorem dX8_colour_10 : decode cX8_colour 10 = .ok (.goto 4, 3) := by decide +kernel
theorem dX8_colour_13 : decode cX8_colour 13 = .ok (.iconst 1, 1) := by decide +kernel
theorem dX8_colour_14 : decode cX8_colour 14 = .ok (.putfield 140, 3) := by decide +kernel
theorem dX8_colour_17 : decode cX8_colour 17 = .ok (.aload_n 0, 1) := by decide +kernel
theorem dX8_colour_18 : decode cX8_colour 18 = .ok (.getfield 140, 3) := by decide +kernel
theorem dX8_colour_21 : decode cX8_colour 21 = .ok (.ifCond .gt 12, 3) := by decide +kernel
theorem dX8_colour_24 : decode cX8_colour 24 = .ok (.aload_n 0, 1) := by decide +kernel
theorem dX8_colour_25 : decode cX8_colour 25 = .ok (.getfield 59, 3) := by decide +kernel
theorem dX8_colour_28 : decode cX8_colour 28 = .ok (.iload_n 1, 1) := by decide +kernel
theorem dX8_colour_29 : decode cX8_colour 29 = .ok (.baload, 1) := by decide +kernel
theorem dX8_colour_30 : decode cX8_colour 30 = .ok (.ifCond .ne 7, 3) := by decide +kernel
theorem dX8_colour_33 : decode cX8_colour 33 = .ok (.iconst 0, 1) := by decide +kernel
theorem dX8_colour_34 : decode cX8_colour 34 = .ok (.goto 9, 3) := by decide +kernel
theorem dX8_colour_37 : decode cX8_colour 37 = .ok (.aload_n 0, 1) := by decide +kernel
theorem dX8_colour_38 : decode cX8_colour 38 = .ok (.getfield 68, 3) := by decide +kernel
theorem dX8_colour_41 : decode cX8_colour 41 = .ok (.iload_n 1, 1) := by decide +kernel
theorem dX8_colour_42 : decode cX8_colour 42 = .ok (.iaload, 1) := by decide +kernel
theorem dX8_colour_43 : decode cX8_colour 43 = .ok (.ireturn, 1) := by decide +kernel
theorem dX8_above_0 : decode cX8_above 0 = .ok (.aload_n 0, 1) := by decide +kernel
theorem dX8_above_1 : decode cX8_above 1 = .ok (.aload_n 0, 1) := by decide +kernel
theorem dX8_above_2 : decode cX8_above 2 = .ok (.iload_n 1, 1) := by decide +kernel
theorem dX8_above_3 : decode cX8_above 3 = .ok (.invokevirtual 203, 3) := by decide +kernel
theorem dX8_above_6 : decode cX8_above 6 = .ok (.ifCond .eq 7, 3) := by decide +kernel
theorem dX8_above_9 : decode cX8_above 9 = .ok (.iconst 0, 1) := by decide +kernel
theorem dX8_above_10 : decode cX8_above 10 = .ok (.goto 4, 3) := by decide +kernel
theorem dX8_above_13 : decode cX8_above 13 = .ok (.iconst 1, 1) := by decide +kernel
theorem dX8_above_14 : decode cX8_above 14 = .ok (.putfield 140, 3) := by decide +kernel
theorem dX8_above_17 : decode cX8_above 17 = .ok (.iconst (-1), 1) := by decide +kernel
theorem dX8_above_18 : decode cX8_above 18 = .ok (.istore_n 2, 1) := by decide +kernel
theorem dX8_above_19 : decode cX8_above 19 = .ok (.iconst 0, 1) := by decide +kernel
theorem dX8_above_20 : decode cX8_above 20 = .ok (.istore_n 3, 1) := by decide +kernel
theorem dX8_above_21 : decode cX8_above 21 = .ok (.iload_n 3, 1) := by decide +kernel
theorem dX8_above_22 : decode cX8_above 22 = .ok (.aload_n 0, 1) := by decide +kernel
theorem dX8_above_23 : decode cX8_above 23 = .ok (.getfield 161, 3) := by decide +kernel
theorem dX8_above_26 : decode cX8_above 26 = .ok (.if_icmp .ge 32, 3) := by decide +kernel
theorem dX8_above_29 : decode cX8_above 29 = .ok (.aload_n 0, 1) := by decide +kernel
theorem dX8_above_30 : decode cX8_above 30 = .ok (.getfield 140, 3) := by decide +kernel
theorem dX8_above_33 : decode cX8_above 33 = .ok (.ifCond .ne 25, 3) := by decide +kernel
theorem dX8_above_36 : decode cX8_above 36 = .ok (.aload_n 0, 1) := by decide +kernel
theorem dX8_above_37 : decode cX8_above 37 = .ok (.getfield 56, 3) := by decide +kernel
theorem dX8_above_40 : decode cX8_above 40 = .ok (.iload_n 3, 1) := by decide +kernel
theorem dX8_above_41 : decode cX8_above 41 = .ok (.iaload, 1) := by decide +kernel
theorem dX8_above_42 : decode cX8_above 42 = .ok (.iload_n 1, 1) := by decide +kernel
theorem dX8_above_43 : decode cX8_above 43 = .ok (.if_icmp .ne 7, 3) := by decide +kernel
theorem dX8_above_46 : decode cX8_above 46 = .ok (.iload_n 3, 1) := by decide +kernel
theorem dX8_above_47 : decode cX8_above 47 = .ok (.goto 4, 3) := by decide +kernel
theorem dX8_above_50 : decode cX8_above 50 = .ok (.iload_n 2, 1) := by decide +kernel
theorem dX8_above_51 : decode cX8_above 51 = .ok (.istore_n 2, 1) := by decide +kernel
theorem dX8_above_52 : decode cX8_above 52 = .ok (.iinc 3 1, 3) := by decide +kernel
theorem dX8_above_55 : decode cX8_above 55 = .ok (.goto (-34), 3) := by decide +kernel
theorem dX8_above_58 : decode cX8_above 58 = .ok (.iload_n 2, 1) := by decide +kernel
theorem dX8_above_59 : decode cX8_above 59 = .ok (.ireturn, 1) := by decide +kernel
theorem dX8_group_0 : decode cX8_group 0 = .ok (.aload_n 0, 1) := by decide +kernel
theorem dX8_group_1 : decode cX8_group 1 = .ok (.aload_n 0, 1) := by decide +kernel
theorem dX8_group_2 : decode cX8_group 2 = .ok (.iload_n 1, 1) := by decide +kernel
theorem dX8_group_3 : decode cX8_group 3 = .ok (.invokevirtual 203, 3) := by decide +kernel
theorem dX8_group_6 : decode cX8_group 6 = .ok (.ifCond .eq 7, 3) := by decide +kernel
theorem dX8_group_9 : decode cX8_group 9 = .ok (.iconst 0, 1) := by decide +kernel
theorem dX8_group_10 : decode cX8_group 10 = .ok (.goto 4, 3) := by decide +kernel
theorem dX8_group_13 : decode cX8_group 13 = .ok (.iconst 1, 1) := by decide +kernel
theorem dX8_group_14 : decode cX8_group 14 = .ok (.putfield 140, 3) := by decide +kernel
theorem dX8_group_17 : decode cX8_group 17 = .ok (.lconst 0, 1) := by decide +kernel
theorem dX8_group_18 : decode cX8_group 18 = .ok (.lstore_n 2, 1) := by decide +kernel
theorem dX8_group_19 : decode cX8_group 19 = .ok (.iconst 0, 1) := by decide +kernel
theorem dX8_group_20 : decode cX8_group 20 = .ok (.istore 4, 2) := by decide +kernel
theorem dX8_group_22 : decode cX8_group 22 = .ok (.iload 4, 2) := by decide +kernel
theorem dX8_group_24 : decode cX8_group 24 = .ok (.aload_n 0, 1) := by decide +kernel
theorem dX8_group_25 : decode cX8_group 25 = .ok (.getfield 148, 3) := by decide +kernel
theorem dX8_group_28 : decode cX8_group 28 = .ok (.if_icmp .ge 62, 3) := by decide +kernel
theorem dX8_group_31 : decode cX8_group 31 = .ok (.aload_n 0, 1) := by decide +kernel
theorem dX8_group_32 : decode cX8_group 32 = .ok (.getfield 140, 3) := by decide +kernel
theorem dX8_group_35 : decode cX8_group 35 = .ok (.ifCond .ne 55, 3) := by decide +kernel
theorem dX8_group_38 : decode cX8_group 38 = .ok (.aload_n 0, 1) := by decide +kernel
theorem dX8_group_39 : decode cX8_group 39 = .ok (.getfield 59, 3) := by decide +kernel
theorem dX8_group_42 : decode cX8_group 42 = .ok (.iload_n 1, 1) := by decide +kernel
theorem dX8_group_43 : decode cX8_group 43 = .ok (.baload, 1) := by decide +kernel
theorem dX8_group_44 : decode cX8_group 44 = .ok (.ifCond .eq 46, 3) := by decide +kernel
theorem dX8_group_47 : decode cX8_group 47 = .ok (.lload_n 2, 1) := by decide +kernel
theorem dX8_group_48 : decode cX8_group 48 = .ok (.aload_n 0, 1) := by decide +kernel
theorem dX8_group_49 : decode cX8_group 49 = .ok (.getfield 59, 3) := by decide +kernel
theorem dX8_group_52 : decode cX8_group 52 = .ok (.iload 4, 2) := by decide +kernel
theorem dX8_group_54 : decode cX8_group 54 = .ok (.baload, 1) := by decide +kernel
theorem dX8_group_55 : decode cX8_group 55 = .ok (.ifCond .eq 26, 3) := by decide +kernel
theorem dX8_group_58 : decode cX8_group 58 = .ok (.aload_n 0, 1) := by decide +kernel
theorem dX8_group_59 : decode cX8_group 59 = .ok (.getfield 71, 3) := by decide +kernel
theorem dX8_group_62 : decode cX8_group 62 = .ok (.iload 4, 2) := by decide +kernel
theorem dX8_group_64 : decode cX8_group 64 = .ok (.iaload, 1) := by decide +kernel
theorem dX8_group_65 : decode cX8_group 65 = .ok (.aload_n 0, 1) := by decide +kernel
theorem dX8_group_66 : decode cX8_group 66 = .ok (.getfield 71, 3) := by decide +kernel
theorem dX8_group_69 : decode cX8_group 69 = .ok (.iload_n 1, 1) := by decide +kernel
theorem dX8_group_70 : decode cX8_group 70 = .ok (.iaload, 1) := by decide +kernel
theorem dX8_group_71 : decode cX8_group 71 = .ok (.if_icmp .ne 10, 3) := by decide +kernel
theorem dX8_group_74 : decode cX8_group 74 = .ok (.lconst 1, 1) := by decide +kernel
theorem dX8_group_75 : decode cX8_group 75 = .ok (.iload 4, 2) := by decide +kernel
theorem dX8_group_77 : decode cX8_group 77 = .ok (.lshl, 1) := by decide +kernel
theorem dX8_group_78 : decode cX8_group 78 = .ok (.goto 4, 3) := by decide +kernel
theorem dX8_group_81 : decode cX8_group 81 = .ok (.lconst 0, 1) := by decide +kernel
theorem dX8_group_82 : decode cX8_group 82 = .ok (.lor, 1) := by decide +kernel
theorem dX8_group_83 : decode cX8_group 83 = .ok (.lstore_n 2, 1) := by decide +kernel
theorem dX8_group_84 : decode cX8_group 84 = .ok (.iinc 4 1, 3) := by decide +kernel
theorem dX8_group_87 : decode cX8_group 87 = .ok (.goto (-65), 3) := by decide +kernel
theorem dX8_group_90 : decode cX8_group 90 = .ok (.lload_n 2, 1) := by decide +kernel
theorem dX8_group_91 : decode cX8_group 91 = .ok (.lreturn, 1) := by decide +kernel
theorem dX8_seen_0 : decode cX8_seen 0 = .ok (.aload_n 0, 1) := by decide +kernel
theorem dX8_seen_1 : decode cX8_seen 1 = .ok (.iload_n 1, 1) := by decide +kernel
theorem dX8_seen_2 : decode cX8_seen 2 = .ok (.iconst 0, 1) := by decide +kernel
theorem dX8_seen_3 : decode cX8_seen 3 = .ok (.bipush 23, 2) := by decide +kernel
theorem dX8_seen_5 : decode cX8_seen 5 = .ok (.invokestatic 144, 3) := by decide +kernel
theorem dX8_seen_8 : decode cX8_seen 8 = .ok (.ifCond .eq 17, 3) := by decide +kernel
theorem dX8_seen_11 : decode cX8_seen 11 = .ok (.iload_n 2, 1) := by decide +kernel
theorem dX8_seen_12 : decode cX8_seen 12 = .ok (.iconst 0, 1) := by decide +kernel
theorem dX8_seen_13 : decode cX8_seen 13 = .ok (.bipush 15, 2) := by decide +kernel
theorem dX8_seen_15 : decode cX8_seen 15 = .ok (.invokestatic 144, 3) := by decide +kernel
theorem dX8_seen_18 : decode cX8_seen 18 = .ok (.ifCond .eq 7, 3) := by decide +kernel
theorem dX8_seen_21 : decode cX8_seen 21 = .ok (.iconst 0, 1) := by decide +kernel
theorem dX8_seen_22 : decode cX8_seen 22 = .ok (.goto 4, 3) := by decide +kernel
theorem dX8_seen_25 : decode cX8_seen 25 = .ok (.iconst 1, 1) := by decide +kernel
theorem dX8_seen_26 : decode cX8_seen 26 = .ok (.putfield 140, 3) := by decide +kernel
theorem dX8_seen_29 : decode cX8_seen 29 = .ok (.aload_n 0, 1) := by decide +kernel
theorem dX8_seen_30 : decode cX8_seen 30 = .ok (.getfield 140, 3) := by decide +kernel
theorem dX8_seen_33 : decode cX8_seen 33 = .ok (.ifCond .le 7, 3) := by decide +kernel
theorem dX8_seen_36 : decode cX8_seen 36 = .ok (.iconst 0, 1) := by decide +kernel
theorem dX8_seen_37 : decode cX8_seen 37 = .ok (.goto 9, 3) := by decide +kernel
theorem dX8_seen_40 : decode cX8_seen 40 = .ok (.aload_n 0, 1) := by decide +kernel
theorem dX8_seen_41 : decode cX8_seen 41 = .ok (.iload_n 1, 1) := by decide +kernel
theorem dX8_seen_42 : decode cX8_seen 42 = .ok (.iload_n 2, 1) := by decide +kernel
theorem dX8_seen_43 : decode cX8_seen 43 = .ok (.invokevirtual 223, 3) := by decide +kernel
theorem dX8_seen_46 : decode cX8_seen 46 = .ok (.ireturn, 1) := by decide +kernel
theorem dX8_seenAnew_0 : decode cX8_seenAnew 0 = .ok (.aload_n 0, 1) := by decide +kernel
theorem dX8_seenAnew_1 : decode cX8_seenAnew 1 = .ok (.iload_n 1, 1) := by decide +kernel
theorem dX8_seenAnew_2 : decode cX8_seenAnew 2 = .ok (.iconst 0, 1) := by decide +kernel
theorem dX8_seenAnew_3 : decode cX8_seenAnew 3 = .ok (.bipush 23, 2) := by decide +kernel
theorem dX8_seenAnew_5 : decode cX8_seenAnew 5 = .ok (.invokestatic 144, 3) := by decide +kernel
theorem dX8_seenAnew_8 : decode cX8_seenAnew 8 = .ok (.ifCond .eq 17, 3) := by decide +kernel
theorem dX8_seenAnew_11 : decode cX8_seenAnew 11 = .ok (.iload_n 2, 1) := by decide +kernel
theorem dX8_seenAnew_12 : decode cX8_seenAnew 12 = .ok (.iconst 0, 1) := by decide +kernel
theorem dX8_seenAnew_13 : decode cX8_seenAnew 13 = .ok (.bipush 15, 2) := by decide +kernel
theorem dX8_seenAnew_15 : decode cX8_seenAnew 15 = .ok (.invokestatic 144, 3) := by decide +kernel
theorem dX8_seenAnew_18 : decode cX8_seenAnew 18 = .ok (.ifCond .eq 7, 3) := by decide +kernel
theorem dX8_seenAnew_21 : decode cX8_seenAnew 21 = .ok (.iconst 0, 1) := by decide +kernel
theorem dX8_seenAnew_22 : decode cX8_seenAnew 22 = .ok (.goto 4, 3) := by decide +kernel
theorem dX8_seenAnew_25 : decode cX8_seenAnew 25 = .ok (.iconst 1, 1) := by decide +kernel
theorem dX8_seenAnew_26 : decode cX8_seenAnew 26 = .ok (.putfield 140, 3) := by decide +kernel
theorem dX8_seenAnew_29 : decode cX8_seenAnew 29 = .ok (.aload_n 0, 1) := by decide +kernel
theorem dX8_seenAnew_30 : decode cX8_seenAnew 30 = .ok (.getfield 140, 3) := by decide +kernel
theorem dX8_seenAnew_33 : decode cX8_seenAnew 33 = .ok (.ifCond .le 7, 3) := by decide +kernel
theorem dX8_seenAnew_36 : decode cX8_seenAnew 36 = .ok (.iconst 0, 1) := by decide +kernel
theorem dX8_seenAnew_37 : decode cX8_seenAnew 37 = .ok (.goto 9, 3) := by decide +kernel
theorem dX8_seenAnew_40 : decode cX8_seenAnew 40 = .ok (.aload_n 0, 1) := by decide +kernel
theorem dX8_seenAnew_41 : decode cX8_seenAnew 41 = .ok (.iload_n 1, 1) := by decide +kernel
theorem dX8_seenAnew_42 : decode cX8_seenAnew 42 = .ok (.iload_n 2, 1) := by decide +kernel
theorem dX8_seenAnew_43 : decode cX8_seenAnew 43 = .ok (.invokevirtual 223, 3) := by decide +kernel
theorem dX8_seenAnew_46 : decode cX8_seenAnew 46 = .ok (.ireturn, 1) := by decide +kernel
theorem dX8_viewedAt_0 : decode cX8_viewedAt 0 = .ok (.iconst (-1), 1) := by decide +kernel
theorem dX8_viewedAt_1 : decode cX8_viewedAt 1 = .ok (.istore 4, 2) := by decide +kernel
theorem dX8_viewedAt_3 : decode cX8_viewedAt 3 = .ok (.iconst 0, 1) := by decide +kernel
theorem dX8_viewedAt_4 : decode cX8_viewedAt 4 = .ok (.istore 5, 2) := by decide +kernel
theorem dX8_viewedAt_6 : decode cX8_viewedAt 6 = .ok (.iload 5, 2) := by decide +kernel
theorem dX8_viewedAt_8 : decode cX8_viewedAt 8 = .ok (.aload_n 0, 1) := by decide +kernel
theorem dX8_viewedAt_9 : decode cX8_viewedAt 9 = .ok (.getfield 107, 3) := by decide +kernel
theorem dX8_viewedAt_12 : decode cX8_viewedAt 12 = .ok (.iload_n 1, 1) := by decide +kernel
theorem dX8_viewedAt_13 : decode cX8_viewedAt 13 = .ok (.iaload, 1) := by decide +kernel
theorem dX8_viewedAt_14 : decode cX8_viewedAt 14 = .ok (.if_icmp .ge 120, 3) := by decide +kernel
theorem dX8_viewedAt_17 : decode cX8_viewedAt 17 = .ok (.bipush 40, 2) := by decide +kernel
theorem dX8_viewedAt_19 : decode cX8_viewedAt 19 = .ok (.iload_n 1, 1) := by decide +kernel
theorem dX8_viewedAt_20 : decode cX8_viewedAt 20 = .ok (.imul, 1) := by decide +kernel
theorem dX8_viewedAt_21 : decode cX8_viewedAt 21 = .ok (.iload 5, 2) := by decide +kernel
theorem dX8_viewedAt_23 : decode cX8_viewedAt 23 = .ok (.iadd, 1) := by decide +kernel
theorem dX8_viewedAt_24 : decode cX8_viewedAt 24 = .ok (.istore 6, 2) := by decide +kernel
theorem dX8_viewedAt_26 : decode cX8_viewedAt 26 = .ok (.aload_n 0, 1) := by decide +kernel
theorem dX8_viewedAt_27 : decode cX8_viewedAt 27 = .ok (.getfield 110, 3) := by decide +kernel
theorem dX8_viewedAt_30 : decode cX8_viewedAt 30 = .ok (.iload 6, 2) := by decide +kernel
theorem dX8_viewedAt_32 : decode cX8_viewedAt 32 = .ok (.iaload, 1) := by decide +kernel
theorem dX8_viewedAt_33 : decode cX8_viewedAt 33 = .ok (.istore 7, 2) := by decide +kernel
theorem dX8_viewedAt_35 : decode cX8_viewedAt 35 = .ok (.iload_n 2, 1) := by decide +kernel
theorem dX8_viewedAt_36 : decode cX8_viewedAt 36 = .ok (.aload_n 0, 1) := by decide +kernel
theorem dX8_viewedAt_37 : decode cX8_viewedAt 37 = .ok (.getfield 113, 3) := by decide +kernel
theorem dX8_viewedAt_40 : decode cX8_viewedAt 40 = .ok (.iload 6, 2) := by decide +kernel
theorem dX8_viewedAt_42 : decode cX8_viewedAt 42 = .ok (.iaload, 1) := by decide +kernel
theorem dX8_viewedAt_43 : decode cX8_viewedAt 43 = .ok (.aload_n 0, 1) := by decide +kernel
theorem dX8_viewedAt_44 : decode cX8_viewedAt 44 = .ok (.getfield 113, 3) := by decide +kernel
theorem dX8_viewedAt_47 : decode cX8_viewedAt 47 = .ok (.iload 6, 2) := by decide +kernel
theorem dX8_viewedAt_49 : decode cX8_viewedAt 49 = .ok (.iaload, 1) := by decide +kernel
theorem dX8_viewedAt_50 : decode cX8_viewedAt 50 = .ok (.aload_n 0, 1) := by decide +kernel
theorem dX8_viewedAt_51 : decode cX8_viewedAt 51 = .ok (.getfield 38, 3) := by decide +kernel
theorem dX8_viewedAt_54 : decode cX8_viewedAt 54 = .ok (.iload 7, 2) := by decide +kernel
theorem dX8_viewedAt_56 : decode cX8_viewedAt 56 = .ok (.iaload, 1) := by decide +kernel
theorem dX8_viewedAt_57 : decode cX8_viewedAt 57 = .ok (.iadd, 1) := by decide +kernel
theorem dX8_viewedAt_58 : decode cX8_viewedAt 58 = .ok (.iconst 1, 1) := by decide +kernel
theorem dX8_viewedAt_59 : decode cX8_viewedAt 59 = .ok (.isub, 1) := by decide +kernel
theorem dX8_viewedAt_60 : decode cX8_viewedAt 60 = .ok (.invokestatic 144, 3) := by decide +kernel
theorem dX8_viewedAt_63 : decode cX8_viewedAt 63 = .ok (.ifCond .eq 38, 3) := by decide +kernel
theorem dX8_viewedAt_66 : decode cX8_viewedAt 66 = .ok (.iload_n 3, 1) := by decide +kernel
theorem dX8_viewedAt_67 : decode cX8_viewedAt 67 = .ok (.aload_n 0, 1) := by decide +kernel
theorem dX8_viewedAt_68 : decode cX8_viewedAt 68 = .ok (.getfield 116, 3) := by decide +kernel
theorem dX8_viewedAt_71 : decode cX8_viewedAt 71 = .ok (.iload 6, 2) := by decide +kernel
theorem dX8_viewedAt_73 : decode cX8_viewedAt 73 = .ok (.iaload, 1) := by decide +kernel
theorem dX8_viewedAt_74 : decode cX8_viewedAt 74 = .ok (.aload_n 0, 1) := by decide +kernel
theorem dX8_viewedAt_75 : decode cX8_viewedAt 75 = .ok (.getfield 116, 3) := by decide +kernel
theorem dX8_viewedAt_78 : decode cX8_viewedAt 78 = .ok (.iload 6, 2) := by decide +kernel
theorem dX8_viewedAt_80 : decode cX8_viewedAt 80 = .ok (.iaload, 1) := by decide +kernel
theorem dX8_viewedAt_81 : decode cX8_viewedAt 81 = .ok (.aload_n 0, 1) := by decide +kernel
theorem dX8_viewedAt_82 : decode cX8_viewedAt 82 = .ok (.getfield 41, 3) := by decide +kernel
theorem dX8_viewedAt_85 : decode cX8_viewedAt 85 = .ok (.iload 7, 2) := by decide +kernel
theorem dX8_viewedAt_87 : decode cX8_viewedAt 87 = .ok (.iaload, 1) := by decide +kernel
theorem dX8_viewedAt_88 : decode cX8_viewedAt 88 = .ok (.iadd, 1) := by decide +kernel
theorem dX8_viewedAt_89 : decode cX8_viewedAt 89 = .ok (.iconst 1, 1) := by decide +kernel
theorem dX8_viewedAt_90 : decode cX8_viewedAt 90 = .ok (.isub, 1) := by decide +kernel
theorem dX8_viewedAt_91 : decode cX8_viewedAt 91 = .ok (.invokestatic 144, 3) := by decide +kernel
theorem dX8_viewedAt_94 : decode cX8_viewedAt 94 = .ok (.ifCond .eq 7, 3) := by decide +kernel
theorem dX8_viewedAt_97 : decode cX8_viewedAt 97 = .ok (.iconst 1, 1) := by decide +kernel
theorem dX8_viewedAt_98 : decode cX8_viewedAt 98 = .ok (.goto 4, 3) := by decide +kernel
theorem dX8_viewedAt_101 : decode cX8_viewedAt 101 = .ok (.iconst 0, 1) := by decide +kernel
theorem dX8_viewedAt_102 : decode cX8_viewedAt 102 = .ok (.istore 8, 2) := by decide +kernel
theorem dX8_viewedAt_104 : decode cX8_viewedAt 104 = .ok (.iload 8, 2) := by decide +kernel
theorem dX8_viewedAt_106 : decode cX8_viewedAt 106 = .ok (.ifCond .eq 18, 3) := by decide +kernel
theorem dX8_viewedAt_109 : decode cX8_viewedAt 109 = .ok (.aload_n 0, 1) := by decide +kernel
theorem dX8_viewedAt_110 : decode cX8_viewedAt 110 = .ok (.getfield 53, 3) := by decide +kernel
theorem dX8_viewedAt_113 : decode cX8_viewedAt 113 = .ok (.iload 7, 2) := by decide +kernel
theorem dX8_viewedAt_115 : decode cX8_viewedAt 115 = .ok (.baload, 1) := by decide +kernel
theorem dX8_viewedAt_116 : decode cX8_viewedAt 116 = .ok (.ifCond .ne 8, 3) := by decide +kernel
theorem dX8_viewedAt_119 : decode cX8_viewedAt 119 = .ok (.iload 6, 2) := by decide +kernel
theorem dX8_viewedAt_121 : decode cX8_viewedAt 121 = .ok (.goto 5, 3) := by decide +kernel
theorem dX8_viewedAt_124 : decode cX8_viewedAt 124 = .ok (.iload 4, 2) := by decide +kernel
theorem dX8_viewedAt_126 : decode cX8_viewedAt 126 = .ok (.istore 4, 2) := by decide +kernel
theorem dX8_viewedAt_128 : decode cX8_viewedAt 128 = .ok (.iinc 5 1, 3) := by decide +kernel
theorem dX8_viewedAt_131 : decode cX8_viewedAt 131 = .ok (.goto (-125), 3) := by decide +kernel
theorem dX8_viewedAt_134 : decode cX8_viewedAt 134 = .ok (.iload 4, 2) := by decide +kernel
theorem dX8_viewedAt_136 : decode cX8_viewedAt 136 = .ok (.ireturn, 1) := by decide +kernel
theorem dX8_isViewed_0 : decode cX8_isViewed 0 = .ok (.iconst 0, 1) := by decide +kernel
theorem dX8_isViewed_1 : decode cX8_isViewed 1 = .ok (.istore_n 3, 1) := by decide +kernel
theorem dX8_isViewed_2 : decode cX8_isViewed 2 = .ok (.iconst 0, 1) := by decide +kernel
theorem dX8_isViewed_3 : decode cX8_isViewed 3 = .ok (.istore 4, 2) := by decide +kernel
theorem dX8_isViewed_5 : decode cX8_isViewed 5 = .ok (.iload 4, 2) := by decide +kernel
theorem dX8_isViewed_7 : decode cX8_isViewed 7 = .ok (.aload_n 0, 1) := by decide +kernel
theorem dX8_isViewed_8 : decode cX8_isViewed 8 = .ok (.getfield 83, 3) := by decide +kernel
theorem dX8_isViewed_11 : decode cX8_isViewed 11 = .ok (.iload_n 1, 1) := by decide +kernel
theorem dX8_isViewed_12 : decode cX8_isViewed 12 = .ok (.iaload, 1) := by decide +kernel
theorem dX8_isViewed_13 : decode cX8_isViewed 13 = .ok (.aload_n 0, 1) := by decide +kernel
theorem dX8_isViewed_14 : decode cX8_isViewed 14 = .ok (.getfield 86, 3) := by decide +kernel
theorem dX8_isViewed_17 : decode cX8_isViewed 17 = .ok (.iload_n 1, 1) := by decide +kernel
theorem dX8_isViewed_18 : decode cX8_isViewed 18 = .ok (.iaload, 1) := by decide +kernel
theorem dX8_isViewed_19 : decode cX8_isViewed 19 = .ok (.imul, 1) := by decide +kernel
theorem dX8_isViewed_20 : decode cX8_isViewed 20 = .ok (.if_icmp .ge 85, 3) := by decide +kernel
theorem dX8_isViewed_23 : decode cX8_isViewed 23 = .ok (.aload_n 0, 1) := by decide +kernel
theorem dX8_isViewed_24 : decode cX8_isViewed 24 = .ok (.iload_n 1, 1) := by decide +kernel
theorem dX8_isViewed_25 : decode cX8_isViewed 25 = .ok (.aload_n 0, 1) := by decide +kernel
theorem dX8_isViewed_26 : decode cX8_isViewed 26 = .ok (.getfield 77, 3) := by decide +kernel
theorem dX8_isViewed_29 : decode cX8_isViewed 29 = .ok (.iload_n 1, 1) := by decide +kernel
theorem dX8_isViewed_30 : decode cX8_isViewed 30 = .ok (.iaload, 1) := by decide +kernel
theorem dX8_isViewed_31 : decode cX8_isViewed 31 = .ok (.iload 4, 2) := by decide +kernel
theorem dX8_isViewed_33 : decode cX8_isViewed 33 = .ok (.aload_n 0, 1) := by decide +kernel
theorem dX8_isViewed_34 : decode cX8_isViewed 34 = .ok (.getfield 83, 3) := by decide +kernel
theorem dX8_isViewed_37 : decode cX8_isViewed 37 = .ok (.iload_n 1, 1) := by decide +kernel
theorem dX8_isViewed_38 : decode cX8_isViewed 38 = .ok (.iaload, 1) := by decide +kernel
theorem dX8_isViewed_39 : decode cX8_isViewed 39 = .ok (.irem, 1) := by decide +kernel
theorem dX8_isViewed_40 : decode cX8_isViewed 40 = .ok (.iadd, 1) := by decide +kernel
theorem dX8_isViewed_41 : decode cX8_isViewed 41 = .ok (.aload_n 0, 1) := by decide +kernel
theorem dX8_isViewed_42 : decode cX8_isViewed 42 = .ok (.getfield 80, 3) := by decide +kernel
theorem dX8_isViewed_45 : decode cX8_isViewed 45 = .ok (.iload_n 1, 1) := by decide +kernel
theorem dX8_isViewed_46 : decode cX8_isViewed 46 = .ok (.iaload, 1) := by decide +kernel
theorem dX8_isViewed_47 : decode cX8_isViewed 47 = .ok (.iload 4, 2) := by decide +kernel
theorem dX8_isViewed_49 : decode cX8_isViewed 49 = .ok (.aload_n 0, 1) := by decide +kernel
theorem dX8_isViewed_50 : decode cX8_isViewed 50 = .ok (.getfield 83, 3) := by decide +kernel
theorem dX8_isViewed_53 : decode cX8_isViewed 53 = .ok (.iload_n 1, 1) := by decide +kernel
theorem dX8_isViewed_54 : decode cX8_isViewed 54 = .ok (.iaload, 1) := by decide +kernel
theorem dX8_isViewed_55 : decode cX8_isViewed 55 = .ok (.idiv, 1) := by decide +kernel
theorem dX8_isViewed_56 : decode cX8_isViewed 56 = .ok (.iadd, 1) := by decide +kernel
theorem dX8_isViewed_57 : decode cX8_isViewed 57 = .ok (.invokevirtual 226, 3) := by decide +kernel
theorem dX8_isViewed_60 : decode cX8_isViewed 60 = .ok (.istore 5, 2) := by decide +kernel
theorem dX8_isViewed_62 : decode cX8_isViewed 62 = .ok (.iload_n 3, 1) := by decide +kernel
theorem dX8_isViewed_63 : decode cX8_isViewed 63 = .ok (.ifCond .ne 30, 3) := by decide +kernel
theorem dX8_isViewed_66 : decode cX8_isViewed 66 = .ok (.iload 5, 2) := by decide +kernel
theorem dX8_isViewed_68 : decode cX8_isViewed 68 = .ok (.iconst (-1), 1) := by decide +kernel
theorem dX8_isViewed_69 : decode cX8_isViewed 69 = .ok (.if_icmp .eq 28, 3) := by decide +kernel
theorem dX8_isViewed_72 : decode cX8_isViewed 72 = .ok (.aload_n 0, 1) := by decide +kernel
theorem dX8_isViewed_73 : decode cX8_isViewed 73 = .ok (.getfield 110, 3) := by decide +kernel
theorem dX8_isViewed_76 : decode cX8_isViewed 76 = .ok (.iload 5, 2) := by decide +kernel
theorem dX8_isViewed_78 : decode cX8_isViewed 78 = .ok (.iconst (-1), 1) := by decide +kernel
theorem dX8_isViewed_79 : decode cX8_isViewed 79 = .ok (.if_icmp .ne 7, 3) := by decide +kernel
theorem dX8_isViewed_82 : decode cX8_isViewed 82 = .ok (.iconst 0, 1) := by decide +kernel
theorem dX8_isViewed_83 : decode cX8_isViewed 83 = .ok (.goto 5, 3) := by decide +kernel
theorem dX8_isViewed_86 : decode cX8_isViewed 86 = .ok (.iload 5, 2) := by decide +kernel
theorem dX8_isViewed_88 : decode cX8_isViewed 88 = .ok (.iaload, 1) := by decide +kernel
theorem dX8_isViewed_89 : decode cX8_isViewed 89 = .ok (.iload_n 2, 1) := by decide +kernel
theorem dX8_isViewed_90 : decode cX8_isViewed 90 = .ok (.if_icmp .ne 7, 3) := by decide +kernel
theorem dX8_isViewed_93 : decode cX8_isViewed 93 = .ok (.iconst 1, 1) := by decide +kernel
theorem dX8_isViewed_94 : decode cX8_isViewed 94 = .ok (.goto 4, 3) := by decide +kernel
theorem dX8_isViewed_97 : decode cX8_isViewed 97 = .ok (.iconst 0, 1) := by decide +kernel
theorem dX8_isViewed_98 : decode cX8_isViewed 98 = .ok (.istore_n 3, 1) := by decide +kernel
theorem dX8_isViewed_99 : decode cX8_isViewed 99 = .ok (.iinc 4 1, 3) := by decide +kernel
theorem dX8_isViewed_102 : decode cX8_isViewed 102 = .ok (.goto (-97), 3) := by decide +kernel
theorem dX8_isViewed_105 : decode cX8_isViewed 105 = .ok (.iload_n 3, 1) := by decide +kernel
theorem dX8_isViewed_106 : decode cX8_isViewed 106 = .ok (.ireturn, 1) := by decide +kernel
theorem dX8_isEmpty_0 : decode cX8_isEmpty 0 = .ok (.iconst 1, 1) := by decide +kernel
theorem dX8_isEmpty_1 : decode cX8_isEmpty 1 = .ok (.istore 5, 2) := by decide +kernel
theorem dX8_isEmpty_3 : decode cX8_isEmpty 3 = .ok (.iconst 0, 1) := by decide +kernel
theorem dX8_isEmpty_4 : decode cX8_isEmpty 4 = .ok (.istore 6, 2) := by decide +kernel
theorem dX8_isEmpty_6 : decode cX8_isEmpty 6 = .ok (.iload 6, 2) := by decide +kernel
theorem dX8_isEmpty_8 : decode cX8_isEmpty 8 = .ok (.iload_n 3, 1) := by decide +kernel
theorem dX8_isEmpty_9 : decode cX8_isEmpty 9 = .ok (.iload 4, 2) := by decide +kernel
theorem dX8_isEmpty_11 : decode cX8_isEmpty 11 = .ok (.imul, 1) := by decide +kernel
theorem dX8_isEmpty_12 : decode cX8_isEmpty 12 = .ok (.if_icmp .ge 41, 3) := by decide +kernel
theorem dX8_isEmpty_15 : decode cX8_isEmpty 15 = .ok (.iload 5, 2) := by decide +kernel
theorem dX8_isEmpty_17 : decode cX8_isEmpty 17 = .ok (.ifCond .eq 27, 3) := by decide +kernel
theorem dX8_isEmpty_20 : decode cX8_isEmpty 20 = .ok (.aload_n 0, 1) := by decide +kernel
theorem dX8_isEmpty_21 : decode cX8_isEmpty 21 = .ok (.iload_n 1, 1) := by decide +kernel
theorem dX8_isEmpty_22 : decode cX8_isEmpty 22 = .ok (.iload 6, 2) := by decide +kernel
theorem dX8_isEmpty_24 : decode cX8_isEmpty 24 = .ok (.iload_n 3, 1) := by decide +kernel
theorem dX8_isEmpty_25 : decode cX8_isEmpty 25 = .ok (.irem, 1) := by decide +kernel
theorem dX8_isEmpty_26 : decode cX8_isEmpty 26 = .ok (.iadd, 1) := by decide +kernel
theorem dX8_isEmpty_27 : decode cX8_isEmpty 27 = .ok (.iload_n 2, 1) := by decide +kernel
theorem dX8_isEmpty_28 : decode cX8_isEmpty 28 = .ok (.iload 6, 2) := by decide +kernel
theorem dX8_isEmpty_30 : decode cX8_isEmpty 30 = .ok (.iload_n 3, 1) := by decide +kernel
theorem dX8_isEmpty_31 : decode cX8_isEmpty 31 = .ok (.idiv, 1) := by decide +kernel
theorem dX8_isEmpty_32 : decode cX8_isEmpty 32 = .ok (.iadd, 1) := by decide +kernel
theorem dX8_isEmpty_33 : decode cX8_isEmpty 33 = .ok (.invokevirtual 223, 3) := by decide +kernel
theorem dX8_isEmpty_36 : decode cX8_isEmpty 36 = .ok (.iconst (-1), 1) := by decide +kernel
theorem dX8_isEmpty_37 : decode cX8_isEmpty 37 = .ok (.if_icmp .ne 7, 3) := by decide +kernel
theorem dX8_isEmpty_40 : decode cX8_isEmpty 40 = .ok (.iconst 1, 1) := by decide +kernel
theorem dX8_isEmpty_41 : decode cX8_isEmpty 41 = .ok (.goto 4, 3) := by decide +kernel
theorem dX8_isEmpty_44 : decode cX8_isEmpty 44 = .ok (.iconst 0, 1) := by decide +kernel
theorem dX8_isEmpty_45 : decode cX8_isEmpty 45 = .ok (.istore 5, 2) := by decide +kernel
theorem dX8_isEmpty_47 : decode cX8_isEmpty 47 = .ok (.iinc 6 1, 3) := by decide +kernel
theorem dX8_isEmpty_50 : decode cX8_isEmpty 50 = .ok (.goto (-44), 3) := by decide +kernel
theorem dX8_isEmpty_53 : decode cX8_isEmpty 53 = .ok (.iload 5, 2) := by decide +kernel
theorem dX8_isEmpty_55 : decode cX8_isEmpty 55 = .ok (.ireturn, 1) := by decide +kernel
theorem dX8_keeps_0 : decode cX8_keeps 0 = .ok (.aload_n 0, 1) := by decide +kernel
theorem dX8_keeps_1 : decode cX8_keeps 1 = .ok (.getfield 107, 3) := by decide +kernel
theorem dX8_keeps_4 : decode cX8_keeps 4 = .ok (.iload_n 1, 1) := by decide +kernel
theorem dX8_keeps_5 : decode cX8_keeps 5 = .ok (.aload_n 0, 1) := by decide +kernel
theorem dX8_keeps_6 : decode cX8_keeps 6 = .ok (.getfield 161, 3) := by decide +kernel
theorem dX8_keeps_9 : decode cX8_keeps 9 = .ok (.iastore, 1) := by decide +kernel
theorem dX8_keeps_10 : decode cX8_keeps 10 = .ok (.iconst 0, 1) := by decide +kernel
theorem dX8_keeps_11 : decode cX8_keeps 11 = .ok (.istore_n 2, 1) := by decide +kernel
theorem dX8_keeps_12 : decode cX8_keeps 12 = .ok (.iload_n 2, 1) := by decide +kernel
theorem dX8_keeps_13 : decode cX8_keeps 13 = .ok (.aload_n 0, 1) := by decide +kernel
theorem dX8_keeps_14 : decode cX8_keeps 14 = .ok (.getfield 161, 3) := by decide +kernel
theorem dX8_keeps_17 : decode cX8_keeps 17 = .ok (.if_icmp .ge 79, 3) := by decide +kernel
theorem dX8_keeps_20 : decode cX8_keeps 20 = .ok (.bipush 40, 2) := by decide +kernel
theorem dX8_keeps_22 : decode cX8_keeps 22 = .ok (.iload_n 1, 1) := by decide +kernel
theorem dX8_keeps_23 : decode cX8_keeps 23 = .ok (.imul, 1) := by decide +kernel
theorem dX8_keeps_24 : decode cX8_keeps 24 = .ok (.iload_n 2, 1) := by decide +kernel
theorem dX8_keeps_25 : decode cX8_keeps 25 = .ok (.iadd, 1) := by decide +kernel
theorem dX8_keeps_26 : decode cX8_keeps 26 = .ok (.istore_n 3, 1) := by decide +kernel
theorem dX8_keeps_27 : decode cX8_keeps 27 = .ok (.aload_n 0, 1) := by decide +kernel
theorem dX8_keeps_28 : decode cX8_keeps 28 = .ok (.getfield 110, 3) := by decide +kernel
theorem dX8_keeps_31 : decode cX8_keeps 31 = .ok (.iload_n 3, 1) := by decide +kernel
theorem dX8_keeps_32 : decode cX8_keeps 32 = .ok (.aload_n 0, 1) := by decide +kernel
theorem dX8_keeps_33 : decode cX8_keeps 33 = .ok (.getfield 56, 3) := by decide +kernel
theorem dX8_keeps_36 : decode cX8_keeps 36 = .ok (.iload_n 2, 1) := by decide +kernel
theorem dX8_keeps_37 : decode cX8_keeps 37 = .ok (.iaload, 1) := by decide +kernel
theorem dX8_keeps_38 : decode cX8_keeps 38 = .ok (.iastore, 1) := by decide +kernel
theorem dX8_keeps_39 : decode cX8_keeps 39 = .ok (.aload_n 0, 1) := by decide +kernel
theorem dX8_keeps_40 : decode cX8_keeps 40 = .ok (.getfield 113, 3) := by decide +kernel
theorem dX8_keeps_43 : decode cX8_keeps 43 = .ok (.iload_n 3, 1) := by decide +kernel
theorem dX8_keeps_44 : decode cX8_keeps 44 = .ok (.aload_n 0, 1) := by decide +kernel
theorem dX8_keeps_45 : decode cX8_keeps 45 = .ok (.getfield 62, 3) := by decide +kernel
theorem dX8_keeps_48 : decode cX8_keeps 48 = .ok (.aload_n 0, 1) := by decide +kernel
theorem dX8_keeps_49 : decode cX8_keeps 49 = .ok (.getfield 56, 3) := by decide +kernel
theorem dX8_keeps_52 : decode cX8_keeps 52 = .ok (.iload_n 2, 1) := by decide +kernel
theorem dX8_keeps_53 : decode cX8_keeps 53 = .ok (.iaload, 1) := by decide +kernel
theorem dX8_keeps_54 : decode cX8_keeps 54 = .ok (.iaload, 1) := by decide +kernel
theorem dX8_keeps_55 : decode cX8_keeps 55 = .ok (.iastore, 1) := by decide +kernel
theorem dX8_keeps_56 : decode cX8_keeps 56 = .ok (.aload_n 0, 1) := by decide +kernel
theorem dX8_keeps_57 : decode cX8_keeps 57 = .ok (.getfield 116, 3) := by decide +kernel
theorem dX8_keeps_60 : decode cX8_keeps 60 = .ok (.iload_n 3, 1) := by decide +kernel
theorem dX8_keeps_61 : decode cX8_keeps 61 = .ok (.aload_n 0, 1) := by decide +kernel
theorem dX8_keeps_62 : decode cX8_keeps 62 = .ok (.getfield 65, 3) := by decide +kernel
theorem dX8_keeps_65 : decode cX8_keeps 65 = .ok (.aload_n 0, 1) := by decide +kernel
theorem dX8_keeps_66 : decode cX8_keeps 66 = .ok (.getfield 56, 3) := by decide +kernel
theorem dX8_keeps_69 : decode cX8_keeps 69 = .ok (.iload_n 2, 1) := by decide +kernel
theorem dX8_keeps_70 : decode cX8_keeps 70 = .ok (.iaload, 1) := by decide +kernel
theorem dX8_keeps_71 : decode cX8_keeps 71 = .ok (.iaload, 1) := by decide +kernel
theorem dX8_keeps_72 : decode cX8_keeps 72 = .ok (.iastore, 1) := by decide +kernel
theorem dX8_keeps_73 : decode cX8_keeps 73 = .ok (.aload_n 0, 1) := by decide +kernel
theorem dX8_keeps_74 : decode cX8_keeps 74 = .ok (.getfield 119, 3) := by decide +kernel
theorem dX8_keeps_77 : decode cX8_keeps 77 = .ok (.iload_n 3, 1) := by decide +kernel
theorem dX8_keeps_78 : decode cX8_keeps 78 = .ok (.aload_n 0, 1) := by decide +kernel
theorem dX8_keeps_79 : decode cX8_keeps 79 = .ok (.getfield 68, 3) := by decide +kernel
theorem dX8_keeps_82 : decode cX8_keeps 82 = .ok (.aload_n 0, 1) := by decide +kernel
theorem dX8_keeps_83 : decode cX8_keeps 83 = .ok (.getfield 56, 3) := by decide +kernel
theorem dX8_keeps_86 : decode cX8_keeps 86 = .ok (.iload_n 2, 1) := by decide +kernel
theorem dX8_keeps_87 : decode cX8_keeps 87 = .ok (.iaload, 1) := by decide +kernel
theorem dX8_keeps_88 : decode cX8_keeps 88 = .ok (.iaload, 1) := by decide +kernel
theorem dX8_keeps_89 : decode cX8_keeps 89 = .ok (.iastore, 1) := by decide +kernel
theorem dX8_keeps_90 : decode cX8_keeps 90 = .ok (.iinc 2 1, 3) := by decide +kernel
theorem dX8_keeps_93 : decode cX8_keeps 93 = .ok (.goto (-81), 3) := by decide +kernel
theorem dX8_keeps_96 : decode cX8_keeps 96 = .ok (.iconst 0, 1) := by decide +kernel
theorem dX8_keeps_97 : decode cX8_keeps 97 = .ok (.istore_n 2, 1) := by decide +kernel
theorem dX8_keeps_98 : decode cX8_keeps 98 = .ok (.iload_n 2, 1) := by decide +kernel
theorem dX8_keeps_99 : decode cX8_keeps 99 = .ok (.aload_n 0, 1) := by decide +kernel
theorem dX8_keeps_100 : decode cX8_keeps 100 = .ok (.getfield 83, 3) := by decide +kernel
theorem dX8_keeps_103 : decode cX8_keeps 103 = .ok (.iload_n 1, 1) := by decide +kernel
theorem dX8_keeps_104 : decode cX8_keeps 104 = .ok (.iaload, 1) := by decide +kernel
theorem dX8_keeps_105 : decode cX8_keeps 105 = .ok (.aload_n 0, 1) := by decide +kernel
theorem dX8_keeps_106 : decode cX8_keeps 106 = .ok (.getfield 86, 3) := by decide +kernel
theorem dX8_keeps_109 : decode cX8_keeps 109 = .ok (.iload_n 1, 1) := by decide +kernel
theorem dX8_keeps_110 : decode cX8_keeps 110 = .ok (.iaload, 1) := by decide +kernel
theorem dX8_keeps_111 : decode cX8_keeps 111 = .ok (.imul, 1) := by decide +kernel
theorem dX8_keeps_112 : decode cX8_keeps 112 = .ok (.if_icmp .ge 69, 3) := by decide +kernel
theorem dX8_keeps_115 : decode cX8_keeps 115 = .ok (.aload_n 0, 1) := by decide +kernel
theorem dX8_keeps_116 : decode cX8_keeps 116 = .ok (.aload_n 0, 1) := by decide +kernel
theorem dX8_keeps_117 : decode cX8_keeps 117 = .ok (.getfield 77, 3) := by decide +kernel
theorem dX8_keeps_120 : decode cX8_keeps 120 = .ok (.iload_n 1, 1) := by decide +kernel
theorem dX8_keeps_121 : decode cX8_keeps 121 = .ok (.iaload, 1) := by decide +kernel
theorem dX8_keeps_122 : decode cX8_keeps 122 = .ok (.iload_n 2, 1) := by decide +kernel
theorem dX8_keeps_123 : decode cX8_keeps 123 = .ok (.aload_n 0, 1) := by decide +kernel
theorem dX8_keeps_124 : decode cX8_keeps 124 = .ok (.getfield 83, 3) := by decide +kernel
theorem dX8_keeps_127 : decode cX8_keeps 127 = .ok (.iload_n 1, 1) := by decide +kernel
theorem dX8_keeps_128 : decode cX8_keeps 128 = .ok (.iaload, 1) := by decide +kernel
theorem dX8_keeps_129 : decode cX8_keeps 129 = .ok (.irem, 1) := by decide +kernel
theorem dX8_keeps_130 : decode cX8_keeps 130 = .ok (.iadd, 1) := by decide +kernel
theorem dX8_keeps_131 : decode cX8_keeps 131 = .ok (.aload_n 0, 1) := by decide +kernel
theorem dX8_keeps_132 : decode cX8_keeps 132 = .ok (.getfield 80, 3) := by decide +kernel
theorem dX8_keeps_135 : decode cX8_keeps 135 = .ok (.iload_n 1, 1) := by decide +kernel
theorem dX8_keeps_136 : decode cX8_keeps 136 = .ok (.iaload, 1) := by decide +kernel
theorem dX8_keeps_137 : decode cX8_keeps 137 = .ok (.iload_n 2, 1) := by decide +kernel
theorem dX8_keeps_138 : decode cX8_keeps 138 = .ok (.aload_n 0, 1) := by decide +kernel
theorem dX8_keeps_139 : decode cX8_keeps 139 = .ok (.getfield 83, 3) := by decide +kernel
theorem dX8_keeps_142 : decode cX8_keeps 142 = .ok (.iload_n 1, 1) := by decide +kernel
theorem dX8_keeps_143 : decode cX8_keeps 143 = .ok (.iaload, 1) := by decide +kernel
theorem dX8_keeps_144 : decode cX8_keeps 144 = .ok (.idiv, 1) := by decide +kernel
theorem dX8_keeps_145 : decode cX8_keeps 145 = .ok (.iadd, 1) := by decide +kernel
theorem dX8_keeps_146 : decode cX8_keeps 146 = .ok (.invokevirtual 223, 3) := by decide +kernel
theorem dX8_keeps_149 : decode cX8_keeps 149 = .ok (.istore_n 3, 1) := by decide +kernel
theorem dX8_keeps_150 : decode cX8_keeps 150 = .ok (.iload_n 3, 1) := by decide +kernel
theorem dX8_keeps_151 : decode cX8_keeps 151 = .ok (.iconst (-1), 1) := by decide +kernel
theorem dX8_keeps_152 : decode cX8_keeps 152 = .ok (.if_icmp .eq 23, 3) := by decide +kernel
theorem dX8_keeps_155 : decode cX8_keeps 155 = .ok (.aload_n 0, 1) := by decide +kernel
theorem dX8_keeps_156 : decode cX8_keeps 156 = .ok (.getfield 101, 3) := by decide +kernel
theorem dX8_keeps_159 : decode cX8_keeps 159 = .ok (.bipush 6, 2) := by decide +kernel
theorem dX8_keeps_161 : decode cX8_keeps 161 = .ok (.iload_n 1, 1) := by decide +kernel
theorem dX8_keeps_162 : decode cX8_keeps 162 = .ok (.imul, 1) := by decide +kernel
theorem dX8_keeps_163 : decode cX8_keeps 163 = .ok (.aload_n 0, 1) := by decide +kernel
theorem dX8_keeps_164 : decode cX8_keeps 164 = .ok (.getfield 35, 3) := by decide +kernel
theorem dX8_keeps_167 : decode cX8_keeps 167 = .ok (.iload_n 3, 1) := by decide +kernel
theorem dX8_keeps_168 : decode cX8_keeps 168 = .ok (.iaload, 1) := by decide +kernel
theorem dX8_keeps_169 : decode cX8_keeps 169 = .ok (.iadd, 1) := by decide +kernel
theorem dX8_keeps_170 : decode cX8_keeps 170 = .ok (.dup2, 1) := by decide +kernel
theorem dX8_keeps_171 : decode cX8_keeps 171 = .ok (.iaload, 1) := by decide +kernel
theorem dX8_keeps_172 : decode cX8_keeps 172 = .ok (.iconst 1, 1) := by decide +kernel
theorem dX8_keeps_173 : decode cX8_keeps 173 = .ok (.iadd, 1) := by decide +kernel
theorem dX8_keeps_174 : decode cX8_keeps 174 = .ok (.iastore, 1) := by decide +kernel
theorem dX8_keeps_175 : decode cX8_keeps 175 = .ok (.iinc 2 1, 3) := by decide +kernel
theorem dX8_keeps_178 : decode cX8_keeps 178 = .ok (.goto (-80), 3) := by decide +kernel
theorem dX8_keeps_181 : decode cX8_keeps 181 = .ok (.iconst 0, 1) := by decide +kernel
theorem dX8_keeps_182 : decode cX8_keeps 182 = .ok (.istore_n 2, 1) := by decide +kernel
theorem dX8_keeps_183 : decode cX8_keeps 183 = .ok (.iload_n 2, 1) := by decide +kernel
theorem dX8_keeps_184 : decode cX8_keeps 184 = .ok (.aload_n 0, 1) := by decide +kernel
theorem dX8_keeps_185 : decode cX8_keeps 185 = .ok (.getfield 151, 3) := by decide +kernel
theorem dX8_keeps_188 : decode cX8_keeps 188 = .ok (.if_icmp .ge 83, 3) := by decide +kernel
theorem dX8_keeps_191 : decode cX8_keeps 191 = .ok (.aload_n 0, 1) := by decide +kernel
theorem dX8_keeps_192 : decode cX8_keeps 192 = .ok (.iload_n 1, 1) := by decide +kernel
theorem dX8_keeps_193 : decode cX8_keeps 193 = .ok (.aload_n 0, 1) := by decide +kernel
theorem dX8_keeps_194 : decode cX8_keeps 194 = .ok (.getfield 16, 3) := by decide +kernel
theorem dX8_keeps_197 : decode cX8_keeps 197 = .ok (.iload_n 2, 1) := by decide +kernel
theorem dX8_keeps_198 : decode cX8_keeps 198 = .ok (.iaload, 1) := by decide +kernel
theorem dX8_keeps_199 : decode cX8_keeps 199 = .ok (.invokevirtual 230, 3) := by decide +kernel
theorem dX8_keeps_202 : decode cX8_keeps 202 = .ok (.ifCond .ne 27, 3) := by decide +kernel
theorem dX8_keeps_205 : decode cX8_keeps 205 = .ok (.aload_n 0, 1) := by decide +kernel
theorem dX8_keeps_206 : decode cX8_keeps 206 = .ok (.getfield 7, 3) := by decide +kernel
theorem dX8_keeps_209 : decode cX8_keeps 209 = .ok (.iload_n 2, 1) := by decide +kernel
theorem dX8_keeps_210 : decode cX8_keeps 210 = .ok (.iaload, 1) := by decide +kernel
theorem dX8_keeps_211 : decode cX8_keeps 211 = .ok (.iconst 5, 1) := by decide +kernel
theorem dX8_keeps_212 : decode cX8_keeps 212 = .ok (.if_icmp .ne 21, 3) := by decide +kernel
theorem dX8_keeps_215 : decode cX8_keeps 215 = .ok (.aload_n 0, 1) := by decide +kernel
theorem dX8_keeps_216 : decode cX8_keeps 216 = .ok (.iload_n 1, 1) := by decide +kernel
theorem dX8_keeps_217 : decode cX8_keeps 217 = .ok (.aload_n 0, 1) := by decide +kernel
theorem dX8_keeps_218 : decode cX8_keeps 218 = .ok (.getfield 19, 3) := by decide +kernel
theorem dX8_keeps_221 : decode cX8_keeps 221 = .ok (.iload_n 2, 1) := by decide +kernel
theorem dX8_keeps_222 : decode cX8_keeps 222 = .ok (.iaload, 1) := by decide +kernel
theorem dX8_keeps_223 : decode cX8_keeps 223 = .ok (.invokevirtual 230, 3) := by decide +kernel
theorem dX8_keeps_226 : decode cX8_keeps 226 = .ok (.ifCond .eq 7, 3) := by decide +kernel
theorem dX8_keeps_229 : decode cX8_keeps 229 = .ok (.iconst 1, 1) := by decide +kernel
theorem dX8_keeps_230 : decode cX8_keeps 230 = .ok (.goto 4, 3) := by decide +kernel
theorem dX8_keeps_233 : decode cX8_keeps 233 = .ok (.iconst 0, 1) := by decide +kernel
theorem dX8_keeps_234 : decode cX8_keeps 234 = .ok (.istore_n 3, 1) := by decide +kernel
theorem dX8_keeps_235 : decode cX8_keeps 235 = .ok (.aload_n 0, 1) := by decide +kernel
theorem dX8_keeps_236 : decode cX8_keeps 236 = .ok (.getfield 104, 3) := by decide +kernel
theorem dX8_keeps_239 : decode cX8_keeps 239 = .ok (.sipush 200, 3) := by decide +kernel
theorem dX8_keeps_242 : decode cX8_keeps 242 = .ok (.iload_n 1, 1) := by decide +kernel
theorem dX8_keeps_243 : decode cX8_keeps 243 = .ok (.imul, 1) := by decide +kernel
theorem dX8_keeps_244 : decode cX8_keeps 244 = .ok (.iload_n 2, 1) := by decide +kernel
theorem dX8_keeps_245 : decode cX8_keeps 245 = .ok (.iadd, 1) := by decide +kernel
theorem dX8_keeps_246 : decode cX8_keeps 246 = .ok (.aload_n 0, 1) := by decide +kernel
theorem dX8_keeps_247 : decode cX8_keeps 247 = .ok (.getfield 25, 3) := by decide +kernel
theorem dX8_keeps_250 : decode cX8_keeps 250 = .ok (.iload_n 2, 1) := by decide +kernel
theorem dX8_keeps_251 : decode cX8_keeps 251 = .ok (.baload, 1) := by decide +kernel
theorem dX8_keeps_252 : decode cX8_keeps 252 = .ok (.ifCond .eq 11, 3) := by decide +kernel
theorem dX8_keeps_255 : decode cX8_keeps 255 = .ok (.iload_n 3, 1) := by decide +kernel
theorem dX8_keeps_256 : decode cX8_keeps 256 = .ok (.ifCond .eq 7, 3) := by decide +kernel
theorem dX8_keeps_259 : decode cX8_keeps 259 = .ok (.iconst 1, 1) := by decide +kernel
theorem dX8_keeps_260 : decode cX8_keeps 260 = .ok (.goto 4, 3) := by decide +kernel
theorem dX8_keeps_263 : decode cX8_keeps 263 = .ok (.iconst 0, 1) := by decide +kernel
theorem dX8_keeps_264 : decode cX8_keeps 264 = .ok (.bastore, 1) := by decide +kernel
theorem dX8_keeps_265 : decode cX8_keeps 265 = .ok (.iinc 2 1, 3) := by decide +kernel
theorem dX8_keeps_268 : decode cX8_keeps 268 = .ok (.goto (-85), 3) := by decide +kernel
theorem dX8_keeps_271 : decode cX8_keeps 271 = .ok (.return_, 1) := by decide +kernel
theorem dX8_freeze_0 : decode cX8_freeze 0 = .ok (.iload_n 2, 1) := by decide +kernel
theorem dX8_freeze_1 : decode cX8_freeze 1 = .ok (.iconst 0, 1) := by decide +kernel
theorem dX8_freeze_2 : decode cX8_freeze 2 = .ok (.bipush 23, 2) := by decide +kernel
theorem dX8_freeze_4 : decode cX8_freeze 4 = .ok (.invokestatic 144, 3) := by decide +kernel
theorem dX8_freeze_7 : decode cX8_freeze 7 = .ok (.ifCond .eq 39, 3) := by decide +kernel
theorem dX8_freeze_10 : decode cX8_freeze 10 = .ok (.iload_n 3, 1) := by decide +kernel
theorem dX8_freeze_11 : decode cX8_freeze 11 = .ok (.iconst 0, 1) := by decide +kernel
theorem dX8_freeze_12 : decode cX8_freeze 12 = .ok (.bipush 15, 2) := by decide +kernel
theorem dX8_freeze_14 : decode cX8_freeze 14 = .ok (.invokestatic 144, 3) := by decide +kernel
theorem dX8_freeze_17 : decode cX8_freeze 17 = .ok (.ifCond .eq 29, 3) := by decide +kernel
theorem dX8_freeze_20 : decode cX8_freeze 20 = .ok (.iload 6, 2) := by decide +kernel
theorem dX8_freeze_22 : decode cX8_freeze 22 = .ok (.iconst 1, 1) := by decide +kernel
theorem dX8_freeze_23 : decode cX8_freeze 23 = .ok (.bipush 20, 2) := by decide +kernel
theorem dX8_freeze_25 : decode cX8_freeze 25 = .ok (.invokestatic 144, 3) := by decide +kernel
theorem dX8_freeze_28 : decode cX8_freeze 28 = .ok (.ifCond .eq 18, 3) := by decide +kernel
theorem dX8_freeze_31 : decode cX8_freeze 31 = .ok (.iload 7, 2) := by decide +kernel
theorem dX8_freeze_33 : decode cX8_freeze 33 = .ok (.iconst 0, 1) := by decide +kernel
theorem dX8_freeze_34 : decode cX8_freeze 34 = .ok (.ldc 234, 2) := by decide +kernel
theorem dX8_freeze_36 : decode cX8_freeze 36 = .ok (.invokestatic 144, 3) := by decide +kernel
theorem dX8_freeze_39 : decode cX8_freeze 39 = .ok (.ifCond .eq 7, 3) := by decide +kernel
theorem dX8_freeze_42 : decode cX8_freeze 42 = .ok (.iconst 1, 1) := by decide +kernel
theorem dX8_freeze_43 : decode cX8_freeze 43 = .ok (.goto 4, 3) := by decide +kernel
theorem dX8_freeze_46 : decode cX8_freeze 46 = .ok (.iconst 0, 1) := by decide +kernel
theorem dX8_freeze_47 : decode cX8_freeze 47 = .ok (.istore 8, 2) := by decide +kernel
theorem dX8_freeze_49 : decode cX8_freeze 49 = .ok (.iload 8, 2) := by decide +kernel
theorem dX8_freeze_51 : decode cX8_freeze 51 = .ok (.ifCond .eq 33, 3) := by decide +kernel
theorem dX8_freeze_54 : decode cX8_freeze 54 = .ok (.iload 4, 2) := by decide +kernel
theorem dX8_freeze_56 : decode cX8_freeze 56 = .ok (.iconst 1, 1) := by decide +kernel
theorem dX8_freeze_57 : decode cX8_freeze 57 = .ok (.bipush 24, 2) := by decide +kernel
theorem dX8_freeze_59 : decode cX8_freeze 59 = .ok (.iload_n 2, 1) := by decide +kernel
theorem dX8_freeze_60 : decode cX8_freeze 60 = .ok (.isub, 1) := by decide +kernel
theorem dX8_freeze_61 : decode cX8_freeze 61 = .ok (.invokestatic 144, 3) := by decide +kernel
theorem dX8_freeze_64 : decode cX8_freeze 64 = .ok (.ifCond .eq 20, 3) := by decide +kernel
theorem dX8_freeze_67 : decode cX8_freeze 67 = .ok (.iload 5, 2) := by decide +kernel
theorem dX8_freeze_69 : decode cX8_freeze 69 = .ok (.iconst 1, 1) := by decide +kernel
theorem dX8_freeze_70 : decode cX8_freeze 70 = .ok (.bipush 16, 2) := by decide +kernel
theorem dX8_freeze_72 : decode cX8_freeze 72 = .ok (.iload_n 3, 1) := by decide +kernel
theorem dX8_freeze_73 : decode cX8_freeze 73 = .ok (.isub, 1) := by decide +kernel
theorem dX8_freeze_74 : decode cX8_freeze 74 = .ok (.invokestatic 144, 3) := by decide +kernel
theorem dX8_freeze_77 : decode cX8_freeze 77 = .ok (.ifCond .eq 7, 3) := by decide +kernel
theorem dX8_freeze_80 : decode cX8_freeze 80 = .ok (.iconst 1, 1) := by decide +kernel
theorem dX8_freeze_81 : decode cX8_freeze 81 = .ok (.goto 4, 3) := by decide +kernel
theorem dX8_freeze_84 : decode cX8_freeze 84 = .ok (.iconst 0, 1) := by decide +kernel
theorem dX8_freeze_85 : decode cX8_freeze 85 = .ok (.istore 8, 2) := by decide +kernel
theorem dX8_freeze_87 : decode cX8_freeze 87 = .ok (.aload_n 0, 1) := by decide +kernel
theorem dX8_freeze_88 : decode cX8_freeze 88 = .ok (.iload_n 1, 1) := by decide +kernel
theorem dX8_freeze_89 : decode cX8_freeze 89 = .ok (.invokestatic 196, 3) := by decide +kernel
theorem dX8_freeze_92 : decode cX8_freeze 92 = .ok (.ifCond .ne 7, 3) := by decide +kernel
theorem dX8_freeze_95 : decode cX8_freeze 95 = .ok (.iconst 1, 1) := by decide +kernel
theorem dX8_freeze_96 : decode cX8_freeze 96 = .ok (.goto 13, 3) := by decide +kernel
theorem dX8_freeze_99 : decode cX8_freeze 99 = .ok (.iload 8, 2) := by decide +kernel
theorem dX8_freeze_101 : decode cX8_freeze 101 = .ok (.ifCond .eq 7, 3) := by decide +kernel
theorem dX8_freeze_104 : decode cX8_freeze 104 = .ok (.iconst 0, 1) := by decide +kernel
theorem dX8_freeze_105 : decode cX8_freeze 105 = .ok (.goto 4, 3) := by decide +kernel
theorem dX8_freeze_108 : decode cX8_freeze 108 = .ok (.iconst 2, 1) := by decide +kernel
theorem dX8_freeze_109 : decode cX8_freeze 109 = .ok (.putfield 140, 3) := by decide +kernel
theorem dX8_freeze_112 : decode cX8_freeze 112 = .ok (.aload_n 0, 1) := by decide +kernel
theorem dX8_freeze_113 : decode cX8_freeze 113 = .ok (.getfield 140, 3) := by decide +kernel
theorem dX8_freeze_116 : decode cX8_freeze 116 = .ok (.ifCond .le 5, 3) := by decide +kernel
theorem dX8_freeze_119 : decode cX8_freeze 119 = .ok (.iconst 0, 1) := by decide +kernel
theorem dX8_freeze_120 : decode cX8_freeze 120 = .ok (.ireturn, 1) := by decide +kernel
theorem dX8_freeze_121 : decode cX8_freeze 121 = .ok (.aload_n 0, 1) := by decide +kernel
theorem dX8_freeze_122 : decode cX8_freeze 122 = .ok (.aload_n 0, 1) := by decide +kernel
theorem dX8_freeze_123 : decode cX8_freeze 123 = .ok (.getfield 154, 3) := by decide +kernel
theorem dX8_freeze_126 : decode cX8_freeze 126 = .ok (.bipush 8, 2) := by decide +kernel
theorem dX8_freeze_128 : decode cX8_freeze 128 = .ok (.if_icmp .eq 16, 3) := by decide +kernel
theorem dX8_freeze_131 : decode cX8_freeze 131 = .ok (.aload_n 0, 1) := by decide +kernel
theorem dX8_freeze_132 : decode cX8_freeze 132 = .ok (.iload_n 2, 1) := by decide +kernel
theorem dX8_freeze_133 : decode cX8_freeze 133 = .ok (.iload_n 3, 1) := by decide +kernel
theorem dX8_freeze_134 : decode cX8_freeze 134 = .ok (.iload 4, 2) := by decide +kernel
theorem dX8_freeze_136 : decode cX8_freeze 136 = .ok (.iload 5, 2) := by decide +kernel
theorem dX8_freeze_138 : decode cX8_freeze 138 = .ok (.invokevirtual 235, 3) := by decide +kernel
theorem dX8_freeze_141 : decode cX8_freeze 141 = .ok (.ifCond .eq 7, 3) := by decide +kernel
theorem dX8_freeze_144 : decode cX8_freeze 144 = .ok (.iconst 3, 1) := by decide +kernel
theorem dX8_freeze_145 : decode cX8_freeze 145 = .ok (.goto 4, 3) := by decide +kernel
theorem dX8_freeze_148 : decode cX8_freeze 148 = .ok (.iconst 0, 1) := by decide +kernel
theorem dX8_freeze_149 : decode cX8_freeze 149 = .ok (.putfield 140, 3) := by decide +kernel
theorem dX8_freeze_152 : decode cX8_freeze 152 = .ok (.aload_n 0, 1) := by decide +kernel
theorem dX8_freeze_153 : decode cX8_freeze 153 = .ok (.getfield 140, 3) := by decide +kernel
theorem dX8_freeze_156 : decode cX8_freeze 156 = .ok (.ifCond .le 5, 3) := by decide +kernel
theorem dX8_freeze_159 : decode cX8_freeze 159 = .ok (.iconst 0, 1) := by decide +kernel
theorem dX8_freeze_160 : decode cX8_freeze 160 = .ok (.ireturn, 1) := by decide +kernel
theorem dX8_freeze_161 : decode cX8_freeze 161 = .ok (.aload_n 0, 1) := by decide +kernel
theorem dX8_freeze_162 : decode cX8_freeze 162 = .ok (.getfield 74, 3) := by decide +kernel
theorem dX8_freeze_165 : decode cX8_freeze 165 = .ok (.aload_n 0, 1) := by decide +kernel
theorem dX8_freeze_166 : decode cX8_freeze 166 = .ok (.getfield 154, 3) := by decide +kernel
theorem dX8_freeze_169 : decode cX8_freeze 169 = .ok (.iload_n 1, 1) := by decide +kernel
theorem dX8_freeze_170 : decode cX8_freeze 170 = .ok (.iastore, 1) := by decide +kernel
theorem dX8_freeze_171 : decode cX8_freeze 171 = .ok (.aload_n 0, 1) := by decide +kernel
theorem dX8_freeze_172 : decode cX8_freeze 172 = .ok (.getfield 77, 3) := by decide +kernel
theorem dX8_freeze_175 : decode cX8_freeze 175 = .ok (.aload_n 0, 1) := by decide +kernel
theorem dX8_freeze_176 : decode cX8_freeze 176 = .ok (.getfield 154, 3) := by decide +kernel
theorem dX8_freeze_179 : decode cX8_freeze 179 = .ok (.iload_n 2, 1) := by decide +kernel
theorem dX8_freeze_180 : decode cX8_freeze 180 = .ok (.iastore, 1) := by decide +kernel
theorem dX8_freeze_181 : decode cX8_freeze 181 = .ok (.aload_n 0, 1) := by decide +kernel
theorem dX8_freeze_182 : decode cX8_freeze 182 = .ok (.getfield 80, 3) := by decide +kernel
theorem dX8_freeze_185 : decode cX8_freeze 185 = .ok (.aload_n 0, 1) := by decide +kernel
theorem dX8_freeze_186 : decode cX8_freeze 186 = .ok (.getfield 154, 3) := by decide +kernel
theorem dX8_freeze_189 : decode cX8_freeze 189 = .ok (.iload_n 3, 1) := by decide +kernel
theorem dX8_freeze_190 : decode cX8_freeze 190 = .ok (.iastore, 1) := by decide +kernel
theorem dX8_freeze_191 : decode cX8_freeze 191 = .ok (.aload_n 0, 1) := by decide +kernel
theorem dX8_freeze_192 : decode cX8_freeze 192 = .ok (.getfield 83, 3) := by decide +kernel
theorem dX8_freeze_195 : decode cX8_freeze 195 = .ok (.aload_n 0, 1) := by decide +kernel
theorem dX8_freeze_196 : decode cX8_freeze 196 = .ok (.getfield 154, 3) := by decide +kernel
theorem dX8_freeze_199 : decode cX8_freeze 199 = .ok (.iload 4, 2) := by decide +kernel
theorem dX8_freeze_201 : decode cX8_freeze 201 = .ok (.iastore, 1) := by decide +kernel
theorem dX8_freeze_202 : decode cX8_freeze 202 = .ok (.aload_n 0, 1) := by decide +kernel
theorem dX8_freeze_203 : decode cX8_freeze 203 = .ok (.getfield 86, 3) := by decide +kernel
theorem dX8_freeze_206 : decode cX8_freeze 206 = .ok (.aload_n 0, 1) := by decide +kernel
theorem dX8_freeze_207 : decode cX8_freeze 207 = .ok (.getfield 154, 3) := by decide +kernel
theorem dX8_freeze_210 : decode cX8_freeze 210 = .ok (.iload 5, 2) := by decide +kernel
theorem dX8_freeze_212 : decode cX8_freeze 212 = .ok (.iastore, 1) := by decide +kernel
theorem dX8_freeze_213 : decode cX8_freeze 213 = .ok (.aload_n 0, 1) := by decide +kernel
theorem dX8_freeze_214 : decode cX8_freeze 214 = .ok (.getfield 89, 3) := by decide +kernel
theorem dX8_freeze_217 : decode cX8_freeze 217 = .ok (.aload_n 0, 1) := by decide +kernel
theorem dX8_freeze_218 : decode cX8_freeze 218 = .ok (.getfield 154, 3) := by decide +kernel
theorem dX8_freeze_221 : decode cX8_freeze 221 = .ok (.iload 6, 2) := by decide +kernel
theorem dX8_freeze_223 : decode cX8_freeze 223 = .ok (.iastore, 1) := by decide +kernel
theorem dX8_freeze_224 : decode cX8_freeze 224 = .ok (.aload_n 0, 1) := by decide +kernel
theorem dX8_freeze_225 : decode cX8_freeze 225 = .ok (.getfield 92, 3) := by decide +kernel
theorem dX8_freeze_228 : decode cX8_freeze 228 = .ok (.aload_n 0, 1) := by decide +kernel
theorem dX8_freeze_229 : decode cX8_freeze 229 = .ok (.getfield 154, 3) := by decide +kernel
theorem dX8_freeze_232 : decode cX8_freeze 232 = .ok (.iload 7, 2) := by decide +kernel
theorem dX8_freeze_234 : decode cX8_freeze 234 = .ok (.iastore, 1) := by decide +kernel
theorem dX8_freeze_235 : decode cX8_freeze 235 = .ok (.aload_n 0, 1) := by decide +kernel
theorem dX8_freeze_236 : decode cX8_freeze 236 = .ok (.aload_n 0, 1) := by decide +kernel
theorem dX8_freeze_237 : decode cX8_freeze 237 = .ok (.getfield 154, 3) := by decide +kernel
theorem dX8_freeze_240 : decode cX8_freeze 240 = .ok (.invokevirtual 239, 3) := by decide +kernel
theorem dX8_freeze_243 : decode cX8_freeze 243 = .ok (.aload_n 0, 1) := by decide +kernel
theorem dX8_freeze_244 : decode cX8_freeze 244 = .ok (.dup, 1) := by decide +kernel
theorem dX8_freeze_245 : decode cX8_freeze 245 = .ok (.getfield 154, 3) := by decide +kernel
theorem dX8_freeze_248 : decode cX8_freeze 248 = .ok (.iconst 1, 1) := by decide +kernel
theorem dX8_freeze_249 : decode cX8_freeze 249 = .ok (.iadd, 1) := by decide +kernel
theorem dX8_freeze_250 : decode cX8_freeze 250 = .ok (.putfield 154, 3) := by decide +kernel
theorem dX8_freeze_253 : decode cX8_freeze 253 = .ok (.aload_n 0, 1) := by decide +kernel
theorem dX8_freeze_254 : decode cX8_freeze 254 = .ok (.getfield 154, 3) := by decide +kernel
theorem dX8_freeze_257 : decode cX8_freeze 257 = .ok (.iconst 1, 1) := by decide +kernel
theorem dX8_freeze_258 : decode cX8_freeze 258 = .ok (.isub, 1) := by decide +kernel
theorem dX8_freeze_259 : decode cX8_freeze 259 = .ok (.ireturn, 1) := by decide +kernel
theorem dX8_withdraw_0 : decode cX8_withdraw 0 = .ok (.aload_n 0, 1) := by decide +kernel
theorem dX8_withdraw_1 : decode cX8_withdraw 1 = .ok (.aload_n 0, 1) := by decide +kernel
theorem dX8_withdraw_2 : decode cX8_withdraw 2 = .ok (.iload_n 1, 1) := by decide +kernel
theorem dX8_withdraw_3 : decode cX8_withdraw 3 = .ok (.invokevirtual 157, 3) := by decide +kernel
theorem dX8_withdraw_6 : decode cX8_withdraw 6 = .ok (.ifCond .eq 7, 3) := by decide +kernel
theorem dX8_withdraw_9 : decode cX8_withdraw 9 = .ok (.iconst 0, 1) := by decide +kernel
theorem dX8_withdraw_10 : decode cX8_withdraw 10 = .ok (.goto 4, 3) := by decide +kernel
theorem dX8_withdraw_13 : decode cX8_withdraw 13 = .ok (.iconst 1, 1) := by decide +kernel
theorem dX8_withdraw_14 : decode cX8_withdraw 14 = .ok (.putfield 140, 3) := by decide +kernel
theorem dX8_withdraw_17 : decode cX8_withdraw 17 = .ok (.aload_n 0, 1) := by decide +kernel
theorem dX8_withdraw_18 : decode cX8_withdraw 18 = .ok (.getfield 140, 3) := by decide +kernel
theorem dX8_withdraw_21 : decode cX8_withdraw 21 = .ok (.ifCond .le 5, 3) := by decide +kernel
theorem dX8_withdraw_24 : decode cX8_withdraw 24 = .ok (.iconst 0, 1) := by decide +kernel
theorem dX8_withdraw_25 : decode cX8_withdraw 25 = .ok (.ireturn, 1) := by decide +kernel
theorem dX8_withdraw_26 : decode cX8_withdraw 26 = .ok (.aload_n 0, 1) := by decide +kernel
theorem dX8_withdraw_27 : decode cX8_withdraw 27 = .ok (.aload_n 0, 1) := by decide +kernel
theorem dX8_withdraw_28 : decode cX8_withdraw 28 = .ok (.getfield 95, 3) := by decide +kernel
theorem dX8_withdraw_31 : decode cX8_withdraw 31 = .ok (.iload_n 1, 1) := by decide +kernel
theorem dX8_withdraw_32 : decode cX8_withdraw 32 = .ok (.baload, 1) := by decide +kernel
theorem dX8_withdraw_33 : decode cX8_withdraw 33 = .ok (.ifCond .ne 12, 3) := by decide +kernel
theorem dX8_withdraw_36 : decode cX8_withdraw 36 = .ok (.aload_n 0, 1) := by decide +kernel
theorem dX8_withdraw_37 : decode cX8_withdraw 37 = .ok (.getfield 98, 3) := by decide +kernel
theorem dX8_withdraw_40 : decode cX8_withdraw 40 = .ok (.iload_n 1, 1) := by decide +kernel
theorem dX8_withdraw_41 : decode cX8_withdraw 41 = .ok (.baload, 1) := by decide +kernel
theorem dX8_withdraw_42 : decode cX8_withdraw 42 = .ok (.ifCond .eq 7, 3) := by decide +kernel
theorem dX8_withdraw_45 : decode cX8_withdraw 45 = .ok (.iconst 2, 1) := by decide +kernel
theorem dX8_withdraw_46 : decode cX8_withdraw 46 = .ok (.goto 4, 3) := by decide +kernel
theorem dX8_withdraw_49 : decode cX8_withdraw 49 = .ok (.iconst 0, 1) := by decide +kernel
theorem dX8_withdraw_50 : decode cX8_withdraw 50 = .ok (.putfield 140, 3) := by decide +kernel
theorem dX8_withdraw_53 : decode cX8_withdraw 53 = .ok (.aload_n 0, 1) := by decide +kernel
theorem dX8_withdraw_54 : decode cX8_withdraw 54 = .ok (.getfield 140, 3) := by decide +kernel
theorem dX8_withdraw_57 : decode cX8_withdraw 57 = .ok (.ifCond .le 5, 3) := by decide +kernel
theorem dX8_withdraw_60 : decode cX8_withdraw 60 = .ok (.iconst 0, 1) := by decide +kernel
theorem dX8_withdraw_61 : decode cX8_withdraw 61 = .ok (.ireturn, 1) := by decide +kernel
theorem dX8_withdraw_62 : decode cX8_withdraw 62 = .ok (.iconst 0, 1) := by decide +kernel
theorem dX8_withdraw_63 : decode cX8_withdraw 63 = .ok (.istore_n 2, 1) := by decide +kernel
theorem dX8_withdraw_64 : decode cX8_withdraw 64 = .ok (.iconst 0, 1) := by decide +kernel
theorem dX8_withdraw_65 : decode cX8_withdraw 65 = .ok (.istore_n 3, 1) := by decide +kernel
theorem dX8_withdraw_66 : decode cX8_withdraw 66 = .ok (.iload_n 3, 1) := by decide +kernel
theorem dX8_withdraw_67 : decode cX8_withdraw 67 = .ok (.aload_n 0, 1) := by decide +kernel
theorem dX8_withdraw_68 : decode cX8_withdraw 68 = .ok (.getfield 151, 3) := by decide +kernel
theorem dX8_withdraw_71 : decode cX8_withdraw 71 = .ok (.if_icmp .ge 45, 3) := by decide +kernel
theorem dX8_withdraw_74 : decode cX8_withdraw 74 = .ok (.iload_n 2, 1) := by decide +kernel
theorem dX8_withdraw_75 : decode cX8_withdraw 75 = .ok (.aload_n 0, 1) := by decide +kernel
theorem dX8_withdraw_76 : decode cX8_withdraw 76 = .ok (.getfield 104, 3) := by decide +kernel
theorem dX8_withdraw_79 : decode cX8_withdraw 79 = .ok (.sipush 200, 3) := by decide +kernel
theorem dX8_withdraw_82 : decode cX8_withdraw 82 = .ok (.iload_n 1, 1) := by decide +kernel
theorem dX8_withdraw_83 : decode cX8_withdraw 83 = .ok (.imul, 1) := by decide +kernel
theorem dX8_withdraw_84 : decode cX8_withdraw 84 = .ok (.iload_n 3, 1) := by decide +kernel
theorem dX8_withdraw_85 : decode cX8_withdraw 85 = .ok (.iadd, 1) := by decide +kernel
theorem dX8_withdraw_86 : decode cX8_withdraw 86 = .ok (.baload, 1) := by decide +kernel
theorem dX8_withdraw_87 : decode cX8_withdraw 87 = .ok (.ifCond .eq 7, 3) := by decide +kernel
theorem dX8_withdraw_90 : decode cX8_withdraw 90 = .ok (.iconst 1, 1) := by decide +kernel
theorem dX8_withdraw_91 : decode cX8_withdraw 91 = .ok (.goto 4, 3) := by decide +kernel
theorem dX8_withdraw_94 : decode cX8_withdraw 94 = .ok (.iconst 0, 1) := by decide +kernel
theorem dX8_withdraw_95 : decode cX8_withdraw 95 = .ok (.iadd, 1) := by decide +kernel
theorem dX8_withdraw_96 : decode cX8_withdraw 96 = .ok (.istore_n 2, 1) := by decide +kernel
theorem dX8_withdraw_97 : decode cX8_withdraw 97 = .ok (.aload_n 0, 1) := by decide +kernel
theorem dX8_withdraw_98 : decode cX8_withdraw 98 = .ok (.getfield 104, 3) := by decide +kernel
theorem dX8_withdraw_101 : decode cX8_withdraw 101 = .ok (.sipush 200, 3) := by decide +kernel
theorem dX8_withdraw_104 : decode cX8_withdraw 104 = .ok (.iload_n 1, 1) := by decide +kernel
theorem dX8_withdraw_105 : decode cX8_withdraw 105 = .ok (.imul, 1) := by decide +kernel
theorem dX8_withdraw_106 : decode cX8_withdraw 106 = .ok (.iload_n 3, 1) := by decide +kernel
theorem dX8_withdraw_107 : decode cX8_withdraw 107 = .ok (.iadd, 1) := by decide +kernel
theorem dX8_withdraw_108 : decode cX8_withdraw 108 = .ok (.iconst 0, 1) := by decide +kernel
theorem dX8_withdraw_109 : decode cX8_withdraw 109 = .ok (.bastore, 1) := by decide +kernel
theorem dX8_withdraw_110 : decode cX8_withdraw 110 = .ok (.iinc 3 1, 3) := by decide +kernel
theorem dX8_withdraw_113 : decode cX8_withdraw 113 = .ok (.goto (-47), 3) := by decide +kernel
theorem dX8_withdraw_116 : decode cX8_withdraw 116 = .ok (.aload_n 0, 1) := by decide +kernel
theorem dX8_withdraw_117 : decode cX8_withdraw 117 = .ok (.getfield 95, 3) := by decide +kernel
theorem dX8_withdraw_120 : decode cX8_withdraw 120 = .ok (.iload_n 1, 1) := by decide +kernel
theorem dX8_withdraw_121 : decode cX8_withdraw 121 = .ok (.iconst 1, 1) := by decide +kernel
theorem dX8_withdraw_122 : decode cX8_withdraw 122 = .ok (.bastore, 1) := by decide +kernel
theorem dX8_withdraw_123 : decode cX8_withdraw 123 = .ok (.iload_n 2, 1) := by decide +kernel
theorem dX8_withdraw_124 : decode cX8_withdraw 124 = .ok (.ireturn, 1) := by decide +kernel
theorem dX8_viewed_0 : decode cX8_viewed 0 = .ok (.aload_n 0, 1) := by decide +kernel
theorem dX8_viewed_1 : decode cX8_viewed 1 = .ok (.iload_n 1, 1) := by decide +kernel
theorem dX8_viewed_2 : decode cX8_viewed 2 = .ok (.invokevirtual 157, 3) := by decide +kernel
theorem dX8_viewed_5 : decode cX8_viewed 5 = .ok (.ifCond .eq 7, 3) := by decide +kernel
theorem dX8_viewed_8 : decode cX8_viewed 8 = .ok (.iload_n 1, 1) := by decide +kernel
theorem dX8_viewed_9 : decode cX8_viewed 9 = .ok (.goto 4, 3) := by decide +kernel
theorem dX8_viewed_12 : decode cX8_viewed 12 = .ok (.iconst 0, 1) := by decide +kernel
theorem dX8_viewed_13 : decode cX8_viewed 13 = .ok (.istore 4, 2) := by decide +kernel
theorem dX8_viewed_15 : decode cX8_viewed 15 = .ok (.aload_n 0, 1) := by decide +kernel
theorem dX8_viewed_16 : decode cX8_viewed 16 = .ok (.iload_n 1, 1) := by decide +kernel
theorem dX8_viewed_17 : decode cX8_viewed 17 = .ok (.invokevirtual 157, 3) := by decide +kernel
theorem dX8_viewed_20 : decode cX8_viewed 20 = .ok (.ifCond .eq 41, 3) := by decide +kernel
theorem dX8_viewed_23 : decode cX8_viewed 23 = .ok (.iload_n 2, 1) := by decide +kernel
theorem dX8_viewed_24 : decode cX8_viewed 24 = .ok (.iconst 0, 1) := by decide +kernel
theorem dX8_viewed_25 : decode cX8_viewed 25 = .ok (.aload_n 0, 1) := by decide +kernel
theorem dX8_viewed_26 : decode cX8_viewed 26 = .ok (.getfield 83, 3) := by decide +kernel
theorem dX8_viewed_29 : decode cX8_viewed 29 = .ok (.iload 4, 2) := by decide +kernel
theorem dX8_viewed_31 : decode cX8_viewed 31 = .ok (.iaload, 1) := by decide +kernel
theorem dX8_viewed_32 : decode cX8_viewed 32 = .ok (.iconst 1, 1) := by decide +kernel
theorem dX8_viewed_33 : decode cX8_viewed 33 = .ok (.isub, 1) := by decide +kernel
theorem dX8_viewed_34 : decode cX8_viewed 34 = .ok (.invokestatic 144, 3) := by decide +kernel
theorem dX8_viewed_37 : decode cX8_viewed 37 = .ok (.ifCond .eq 24, 3) := by decide +kernel
theorem dX8_viewed_40 : decode cX8_viewed 40 = .ok (.iload_n 3, 1) := by decide +kernel
theorem dX8_viewed_41 : decode cX8_viewed 41 = .ok (.iconst 0, 1) := by decide +kernel
theorem dX8_viewed_42 : decode cX8_viewed 42 = .ok (.aload_n 0, 1) := by decide +kernel
theorem dX8_viewed_43 : decode cX8_viewed 43 = .ok (.getfield 86, 3) := by decide +kernel
theorem dX8_viewed_46 : decode cX8_viewed 46 = .ok (.iload 4, 2) := by decide +kernel
theorem dX8_viewed_48 : decode cX8_viewed 48 = .ok (.iaload, 1) := by decide +kernel
theorem dX8_viewed_49 : decode cX8_viewed 49 = .ok (.iconst 1, 1) := by decide +kernel
theorem dX8_viewed_50 : decode cX8_viewed 50 = .ok (.isub, 1) := by decide +kernel
theorem dX8_viewed_51 : decode cX8_viewed 51 = .ok (.invokestatic 144, 3) := by decide +kernel
theorem dX8_viewed_54 : decode cX8_viewed 54 = .ok (.ifCond .eq 7, 3) := by decide +kernel
theorem dX8_viewed_57 : decode cX8_viewed 57 = .ok (.iconst 1, 1) := by decide +kernel
theorem dX8_viewed_58 : decode cX8_viewed 58 = .ok (.goto 4, 3) := by decide +kernel
theorem dX8_viewed_61 : decode cX8_viewed 61 = .ok (.iconst 0, 1) := by decide +kernel
theorem dX8_viewed_62 : decode cX8_viewed 62 = .ok (.istore 5, 2) := by decide +kernel
theorem dX8_viewed_64 : decode cX8_viewed 64 = .ok (.aload_n 0, 1) := by decide +kernel
theorem dX8_viewed_65 : decode cX8_viewed 65 = .ok (.iload 5, 2) := by decide +kernel
theorem dX8_viewed_67 : decode cX8_viewed 67 = .ok (.ifCond .eq 7, 3) := by decide +kernel
theorem dX8_viewed_70 : decode cX8_viewed 70 = .ok (.iconst 0, 1) := by decide +kernel
theorem dX8_viewed_71 : decode cX8_viewed 71 = .ok (.goto 4, 3) := by decide +kernel
theorem dX8_viewed_74 : decode cX8_viewed 74 = .ok (.iconst 1, 1) := by decide +kernel
theorem dX8_viewed_75 : decode cX8_viewed 75 = .ok (.putfield 140, 3) := by decide +kernel
theorem dX8_viewed_78 : decode cX8_viewed 78 = .ok (.aload_n 0, 1) := by decide +kernel
theorem dX8_viewed_79 : decode cX8_viewed 79 = .ok (.getfield 140, 3) := by decide +kernel
theorem dX8_viewed_82 : decode cX8_viewed 82 = .ok (.ifCond .le 5, 3) := by decide +kernel
theorem dX8_viewed_85 : decode cX8_viewed 85 = .ok (.iconst 0, 1) := by decide +kernel
theorem dX8_viewed_86 : decode cX8_viewed 86 = .ok (.ireturn, 1) := by decide +kernel
theorem dX8_viewed_87 : decode cX8_viewed 87 = .ok (.aload_n 0, 1) := by decide +kernel
theorem dX8_viewed_88 : decode cX8_viewed 88 = .ok (.iload_n 1, 1) := by decide +kernel
theorem dX8_viewed_89 : decode cX8_viewed 89 = .ok (.aload_n 0, 1) := by decide +kernel
theorem dX8_viewed_90 : decode cX8_viewed 90 = .ok (.getfield 77, 3) := by decide +kernel
theorem dX8_viewed_93 : decode cX8_viewed 93 = .ok (.iload_n 1, 1) := by decide +kernel
theorem dX8_viewed_94 : decode cX8_viewed 94 = .ok (.iaload, 1) := by decide +kernel
theorem dX8_viewed_95 : decode cX8_viewed 95 = .ok (.iload_n 2, 1) := by decide +kernel
theorem dX8_viewed_96 : decode cX8_viewed 96 = .ok (.iadd, 1) := by decide +kernel
theorem dX8_viewed_97 : decode cX8_viewed 97 = .ok (.aload_n 0, 1) := by decide +kernel
theorem dX8_viewed_98 : decode cX8_viewed 98 = .ok (.getfield 80, 3) := by decide +kernel
theorem dX8_viewed_101 : decode cX8_viewed 101 = .ok (.iload_n 1, 1) := by decide +kernel
theorem dX8_viewed_102 : decode cX8_viewed 102 = .ok (.iaload, 1) := by decide +kernel
theorem dX8_viewed_103 : decode cX8_viewed 103 = .ok (.iload_n 3, 1) := by decide +kernel
theorem dX8_viewed_104 : decode cX8_viewed 104 = .ok (.iadd, 1) := by decide +kernel
theorem dX8_viewed_105 : decode cX8_viewed 105 = .ok (.invokevirtual 226, 3) := by decide +kernel
theorem dX8_viewed_108 : decode cX8_viewed 108 = .ok (.istore 6, 2) := by decide +kernel
theorem dX8_viewed_110 : decode cX8_viewed 110 = .ok (.iload 6, 2) := by decide +kernel
theorem dX8_viewed_112 : decode cX8_viewed 112 = .ok (.iconst (-1), 1) := by decide +kernel
theorem dX8_viewed_113 : decode cX8_viewed 113 = .ok (.if_icmp .ne 7, 3) := by decide +kernel
theorem dX8_viewed_116 : decode cX8_viewed 116 = .ok (.iconst 0, 1) := by decide +kernel
theorem dX8_viewed_117 : decode cX8_viewed 117 = .ok (.goto 10, 3) := by decide +kernel
theorem dX8_viewed_120 : decode cX8_viewed 120 = .ok (.aload_n 0, 1) := by decide +kernel
theorem dX8_viewed_121 : decode cX8_viewed 121 = .ok (.getfield 119, 3) := by decide +kernel
theorem dX8_viewed_124 : decode cX8_viewed 124 = .ok (.iload 6, 2) := by decide +kernel
theorem dX8_viewed_126 : decode cX8_viewed 126 = .ok (.iaload, 1) := by decide +kernel
theorem dX8_viewed_127 : decode cX8_viewed 127 = .ok (.ireturn, 1) := by decide +kernel
theorem dX8_area_0 : decode cX8_area 0 = .ok (.aload_n 0, 1) := by decide +kernel
theorem dX8_area_1 : decode cX8_area 1 = .ok (.aload_n 0, 1) := by decide +kernel
theorem dX8_area_2 : decode cX8_area 2 = .ok (.iload_n 1, 1) := by decide +kernel
theorem dX8_area_3 : decode cX8_area 3 = .ok (.invokevirtual 157, 3) := by decide +kernel
theorem dX8_area_6 : decode cX8_area 6 = .ok (.ifCond .eq 14, 3) := by decide +kernel
theorem dX8_area_9 : decode cX8_area 9 = .ok (.iload_n 2, 1) := by decide +kernel
theorem dX8_area_10 : decode cX8_area 10 = .ok (.invokestatic 196, 3) := by decide +kernel
theorem dX8_area_13 : decode cX8_area 13 = .ok (.ifCond .eq 7, 3) := by decide +kernel
theorem dX8_area_16 : decode cX8_area 16 = .ok (.iconst 0, 1) := by decide +kernel
theorem dX8_area_17 : decode cX8_area 17 = .ok (.goto 4, 3) := by decide +kernel
theorem dX8_area_20 : decode cX8_area 20 = .ok (.iconst 1, 1) := by decide +kernel
theorem dX8_area_21 : decode cX8_area 21 = .ok (.putfield 140, 3) := by decide +kernel
theorem dX8_area_24 : decode cX8_area 24 = .ok (.aload_n 0, 1) := by decide +kernel
theorem dX8_area_25 : decode cX8_area 25 = .ok (.getfield 140, 3) := by decide +kernel
theorem dX8_area_28 : decode cX8_area 28 = .ok (.ifCond .le 7, 3) := by decide +kernel
theorem dX8_area_31 : decode cX8_area 31 = .ok (.iconst 0, 1) := by decide +kernel
theorem dX8_area_32 : decode cX8_area 32 = .ok (.goto 14, 3) := by decide +kernel
theorem dX8_area_35 : decode cX8_area 35 = .ok (.aload_n 0, 1) := by decide +kernel
theorem dX8_area_36 : decode cX8_area 36 = .ok (.getfield 101, 3) := by decide +kernel
theorem dX8_area_39 : decode cX8_area 39 = .ok (.bipush 6, 2) := by decide +kernel
theorem dX8_area_41 : decode cX8_area 41 = .ok (.iload_n 1, 1) := by decide +kernel
theorem dX8_area_42 : decode cX8_area 42 = .ok (.imul, 1) := by decide +kernel
theorem dX8_area_43 : decode cX8_area 43 = .ok (.iload_n 2, 1) := by decide +kernel
theorem dX8_area_44 : decode cX8_area 44 = .ok (.iadd, 1) := by decide +kernel
theorem dX8_area_45 : decode cX8_area 45 = .ok (.iaload, 1) := by decide +kernel
theorem dX8_area_46 : decode cX8_area 46 = .ok (.ireturn, 1) := by decide +kernel
theorem dX8_shares_0 : decode cX8_shares 0 = .ok (.iconst 0, 1) := by decide +kernel
theorem dX8_shares_1 : decode cX8_shares 1 = .ok (.istore_n 3, 1) := by decide +kernel
theorem dX8_shares_2 : decode cX8_shares 2 = .ok (.iconst 0, 1) := by decide +kernel
theorem dX8_shares_3 : decode cX8_shares 3 = .ok (.istore 4, 2) := by decide +kernel
theorem dX8_shares_5 : decode cX8_shares 5 = .ok (.iload 4, 2) := by decide +kernel
theorem dX8_shares_7 : decode cX8_shares 7 = .ok (.bipush 6, 2) := by decide +kernel
theorem dX8_shares_9 : decode cX8_shares 9 = .ok (.if_icmp .ge 24, 3) := by decide +kernel
theorem dX8_shares_12 : decode cX8_shares 12 = .ok (.iload_n 3, 1) := by decide +kernel
theorem dX8_shares_13 : decode cX8_shares 13 = .ok (.aload_n 0, 1) := by decide +kernel
theorem dX8_shares_14 : decode cX8_shares 14 = .ok (.getfield 101, 3) := by decide +kernel
theorem dX8_shares_17 : decode cX8_shares 17 = .ok (.bipush 6, 2) := by decide +kernel
theorem dX8_shares_19 : decode cX8_shares 19 = .ok (.iload_n 1, 1) := by decide +kernel
theorem dX8_shares_20 : decode cX8_shares 20 = .ok (.imul, 1) := by decide +kernel
theorem dX8_shares_21 : decode cX8_shares 21 = .ok (.iload 4, 2) := by decide +kernel
theorem dX8_shares_23 : decode cX8_shares 23 = .ok (.iadd, 1) := by decide +kernel
theorem dX8_shares_24 : decode cX8_shares 24 = .ok (.iaload, 1) := by decide +kernel
theorem dX8_shares_25 : decode cX8_shares 25 = .ok (.iadd, 1) := by decide +kernel
theorem dX8_shares_26 : decode cX8_shares 26 = .ok (.istore_n 3, 1) := by decide +kernel
theorem dX8_shares_27 : decode cX8_shares 27 = .ok (.iinc 4 1, 3) := by decide +kernel
theorem dX8_shares_30 : decode cX8_shares 30 = .ok (.goto (-25), 3) := by decide +kernel
theorem dX8_shares_33 : decode cX8_shares 33 = .ok (.iload_n 2, 1) := by decide +kernel
theorem dX8_shares_34 : decode cX8_shares 34 = .ok (.istore 4, 2) := by decide +kernel
theorem dX8_shares_36 : decode cX8_shares 36 = .ok (.iconst 0, 1) := by decide +kernel
theorem dX8_shares_37 : decode cX8_shares 37 = .ok (.istore 5, 2) := by decide +kernel
theorem dX8_shares_39 : decode cX8_shares 39 = .ok (.iload 5, 2) := by decide +kernel
theorem dX8_shares_41 : decode cX8_shares 41 = .ok (.bipush 6, 2) := by decide +kernel
theorem dX8_shares_43 : decode cX8_shares 43 = .ok (.if_icmp .ge 46, 3) := by decide +kernel
theorem dX8_shares_46 : decode cX8_shares 46 = .ok (.iload_n 2, 1) := by decide +kernel
theorem dX8_shares_47 : decode cX8_shares 47 = .ok (.aload_n 0, 1) := by decide +kernel
theorem dX8_shares_48 : decode cX8_shares 48 = .ok (.getfield 101, 3) := by decide +kernel
theorem dX8_shares_51 : decode cX8_shares 51 = .ok (.bipush 6, 2) := by decide +kernel
theorem dX8_shares_53 : decode cX8_shares 53 = .ok (.iload_n 1, 1) := by decide +kernel
theorem dX8_shares_54 : decode cX8_shares 54 = .ok (.imul, 1) := by decide +kernel
theorem dX8_shares_55 : decode cX8_shares 55 = .ok (.iload 5, 2) := by decide +kernel
theorem dX8_shares_57 : decode cX8_shares 57 = .ok (.iadd, 1) := by decide +kernel
theorem dX8_shares_58 : decode cX8_shares 58 = .ok (.iaload, 1) := by decide +kernel
theorem dX8_shares_59 : decode cX8_shares 59 = .ok (.imul, 1) := by decide +kernel
theorem dX8_shares_60 : decode cX8_shares 60 = .ok (.iload_n 3, 1) := by decide +kernel
theorem dX8_shares_61 : decode cX8_shares 61 = .ok (.idiv, 1) := by decide +kernel
theorem dX8_shares_62 : decode cX8_shares 62 = .ok (.istore 6, 2) := by decide +kernel
theorem dX8_shares_64 : decode cX8_shares 64 = .ok (.aload_n 0, 1) := by decide +kernel
theorem dX8_shares_65 : decode cX8_shares 65 = .ok (.getfield 134, 3) := by decide +kernel
theorem dX8_shares_68 : decode cX8_shares 68 = .ok (.iload 5, 2) := by decide +kernel
theorem dX8_shares_70 : decode cX8_shares 70 = .ok (.dup2, 1) := by decide +kernel
theorem dX8_shares_71 : decode cX8_shares 71 = .ok (.iaload, 1) := by decide +kernel
theorem dX8_shares_72 : decode cX8_shares 72 = .ok (.iload 6, 2) := by decide +kernel
theorem dX8_shares_74 : decode cX8_shares 74 = .ok (.iadd, 1) := by decide +kernel
theorem dX8_shares_75 : decode cX8_shares 75 = .ok (.iastore, 1) := by decide +kernel
theorem dX8_shares_76 : decode cX8_shares 76 = .ok (.iload 4, 2) := by decide +kernel
theorem dX8_shares_78 : decode cX8_shares 78 = .ok (.iload 6, 2) := by decide +kernel
theorem dX8_shares_80 : decode cX8_shares 80 = .ok (.isub, 1) := by decide +kernel
theorem dX8_shares_81 : decode cX8_shares 81 = .ok (.istore 4, 2) := by decide +kernel
theorem dX8_shares_83 : decode cX8_shares 83 = .ok (.iinc 5 1, 3) := by decide +kernel
theorem dX8_shares_86 : decode cX8_shares 86 = .ok (.goto (-47), 3) := by decide +kernel
theorem dX8_shares_89 : decode cX8_shares 89 = .ok (.aload_n 0, 1) := by decide +kernel
theorem dX8_shares_90 : decode cX8_shares 90 = .ok (.getfield 134, 3) := by decide +kernel
theorem dX8_shares_93 : decode cX8_shares 93 = .ok (.aload_n 0, 1) := by decide +kernel
theorem dX8_shares_94 : decode cX8_shares 94 = .ok (.getfield 74, 3) := by decide +kernel
theorem dX8_shares_97 : decode cX8_shares 97 = .ok (.iload_n 1, 1) := by decide +kernel
theorem dX8_shares_98 : decode cX8_shares 98 = .ok (.iaload, 1) := by decide +kernel
theorem dX8_shares_99 : decode cX8_shares 99 = .ok (.dup2, 1) := by decide +kernel
theorem dX8_shares_100 : decode cX8_shares 100 = .ok (.iaload, 1) := by decide +kernel
theorem dX8_shares_101 : decode cX8_shares 101 = .ok (.iload 4, 2) := by decide +kernel
theorem dX8_shares_103 : decode cX8_shares 103 = .ok (.iadd, 1) := by decide +kernel
theorem dX8_shares_104 : decode cX8_shares 104 = .ok (.iastore, 1) := by decide +kernel
theorem dX8_shares_105 : decode cX8_shares 105 = .ok (.return_, 1) := by decide +kernel
theorem dX8_sells_0 : decode cX8_sells 0 = .ok (.aload_n 0, 1) := by decide +kernel
theorem dX8_sells_1 : decode cX8_sells 1 = .ok (.getfield 122, 3) := by decide +kernel
theorem dX8_sells_4 : decode cX8_sells 4 = .ok (.iload_n 1, 1) := by decide +kernel
theorem dX8_sells_5 : decode cX8_sells 5 = .ok (.iconst 1, 1) := by decide +kernel
theorem dX8_sells_6 : decode cX8_sells 6 = .ok (.iastore, 1) := by decide +kernel
theorem dX8_sells_7 : decode cX8_sells 7 = .ok (.aload_n 0, 1) := by decide +kernel
theorem dX8_sells_8 : decode cX8_sells 8 = .ok (.getfield 125, 3) := by decide +kernel
theorem dX8_sells_11 : decode cX8_sells 11 = .ok (.iload_n 1, 1) := by decide +kernel
theorem dX8_sells_12 : decode cX8_sells 12 = .ok (.iload_n 2, 1) := by decide +kernel
theorem dX8_sells_13 : decode cX8_sells 13 = .ok (.iastore, 1) := by decide +kernel
theorem dX8_sells_14 : decode cX8_sells 14 = .ok (.aload_n 0, 1) := by decide +kernel
theorem dX8_sells_15 : decode cX8_sells 15 = .ok (.getfield 128, 3) := by decide +kernel
theorem dX8_sells_18 : decode cX8_sells 18 = .ok (.iload_n 1, 1) := by decide +kernel
theorem dX8_sells_19 : decode cX8_sells 19 = .ok (.iload_n 3, 1) := by decide +kernel
theorem dX8_sells_20 : decode cX8_sells 20 = .ok (.iastore, 1) := by decide +kernel
theorem dX8_sells_21 : decode cX8_sells 21 = .ok (.aload_n 0, 1) := by decide +kernel
theorem dX8_sells_22 : decode cX8_sells 22 = .ok (.getfield 137, 3) := by decide +kernel
theorem dX8_sells_25 : decode cX8_sells 25 = .ok (.iload_n 2, 1) := by decide +kernel
theorem dX8_sells_26 : decode cX8_sells 26 = .ok (.dup2, 1) := by decide +kernel
theorem dX8_sells_27 : decode cX8_sells 27 = .ok (.iaload, 1) := by decide +kernel
theorem dX8_sells_28 : decode cX8_sells 28 = .ok (.iload_n 3, 1) := by decide +kernel
theorem dX8_sells_29 : decode cX8_sells 29 = .ok (.isub, 1) := by decide +kernel
theorem dX8_sells_30 : decode cX8_sells 30 = .ok (.iastore, 1) := by decide +kernel
theorem dX8_sells_31 : decode cX8_sells 31 = .ok (.return_, 1) := by decide +kernel
theorem dX8_sell_0 : decode cX8_sell 0 = .ok (.aload_n 0, 1) := by decide +kernel
theorem dX8_sell_1 : decode cX8_sell 1 = .ok (.aload_n 0, 1) := by decide +kernel
theorem dX8_sell_2 : decode cX8_sell 2 = .ok (.iload_n 1, 1) := by decide +kernel
theorem dX8_sell_3 : decode cX8_sell 3 = .ok (.invokevirtual 157, 3) := by decide +kernel
theorem dX8_sell_6 : decode cX8_sell 6 = .ok (.ifCond .eq 14, 3) := by decide +kernel
theorem dX8_sell_9 : decode cX8_sell 9 = .ok (.iload_n 2, 1) := by decide +kernel
theorem dX8_sell_10 : decode cX8_sell 10 = .ok (.invokestatic 242, 3) := by decide +kernel
theorem dX8_sell_13 : decode cX8_sell 13 = .ok (.ifCond .eq 7, 3) := by decide +kernel
theorem dX8_sell_16 : decode cX8_sell 16 = .ok (.iconst 0, 1) := by decide +kernel
theorem dX8_sell_17 : decode cX8_sell 17 = .ok (.goto 4, 3) := by decide +kernel
theorem dX8_sell_20 : decode cX8_sell 20 = .ok (.iconst 1, 1) := by decide +kernel
theorem dX8_sell_21 : decode cX8_sell 21 = .ok (.putfield 140, 3) := by decide +kernel
theorem dX8_sell_24 : decode cX8_sell 24 = .ok (.aload_n 0, 1) := by decide +kernel
theorem dX8_sell_25 : decode cX8_sell 25 = .ok (.getfield 140, 3) := by decide +kernel
theorem dX8_sell_28 : decode cX8_sell 28 = .ok (.ifCond .le 5, 3) := by decide +kernel
theorem dX8_sell_31 : decode cX8_sell 31 = .ok (.iconst 0, 1) := by decide +kernel
theorem dX8_sell_32 : decode cX8_sell 32 = .ok (.ireturn, 1) := by decide +kernel
theorem dX8_sell_33 : decode cX8_sell 33 = .ok (.iconst 0, 1) := by decide +kernel
theorem dX8_sell_34 : decode cX8_sell 34 = .ok (.istore_n 3, 1) := by decide +kernel
theorem dX8_sell_35 : decode cX8_sell 35 = .ok (.iload_n 3, 1) := by decide +kernel
theorem dX8_sell_36 : decode cX8_sell 36 = .ok (.aload_n 0, 1) := by decide +kernel
theorem dX8_sell_37 : decode cX8_sell 37 = .ok (.getfield 89, 3) := by decide +kernel
theorem dX8_sell_40 : decode cX8_sell 40 = .ok (.iload_n 1, 1) := by decide +kernel
theorem dX8_sell_41 : decode cX8_sell 41 = .ok (.iaload, 1) := by decide +kernel
theorem dX8_sell_42 : decode cX8_sell 42 = .ok (.if_icmp .ge 23, 3) := by decide +kernel
theorem dX8_sell_45 : decode cX8_sell 45 = .ok (.aload_n 0, 1) := by decide +kernel
theorem dX8_sell_46 : decode cX8_sell 46 = .ok (.getfield 122, 3) := by decide +kernel
theorem dX8_sell_49 : decode cX8_sell 49 = .ok (.bipush 20, 2) := by decide +kernel
theorem dX8_sell_51 : decode cX8_sell 51 = .ok (.iload_n 1, 1) := by decide +kernel
theorem dX8_sell_52 : decode cX8_sell 52 = .ok (.imul, 1) := by decide +kernel
theorem dX8_sell_53 : decode cX8_sell 53 = .ok (.iload_n 3, 1) := by decide +kernel
theorem dX8_sell_54 : decode cX8_sell 54 = .ok (.iadd, 1) := by decide +kernel
theorem dX8_sell_55 : decode cX8_sell 55 = .ok (.iaload, 1) := by decide +kernel
theorem dX8_sell_56 : decode cX8_sell 56 = .ok (.ifCond .eq 9, 3) := by decide +kernel
theorem dX8_sell_59 : decode cX8_sell 59 = .ok (.iinc 3 1, 3) := by decide +kernel
theorem dX8_sell_62 : decode cX8_sell 62 = .ok (.goto (-27), 3) := by decide +kernel
theorem dX8_sell_65 : decode cX8_sell 65 = .ok (.aload_n 0, 1) := by decide +kernel
theorem dX8_sell_66 : decode cX8_sell 66 = .ok (.aload_n 0, 1) := by decide +kernel
theorem dX8_sell_67 : decode cX8_sell 67 = .ok (.getfield 95, 3) := by decide +kernel
theorem dX8_sell_70 : decode cX8_sell 70 = .ok (.iload_n 1, 1) := by decide +kernel
theorem dX8_sell_71 : decode cX8_sell 71 = .ok (.baload, 1) := by decide +kernel
theorem dX8_sell_72 : decode cX8_sell 72 = .ok (.ifCond .ne 13, 3) := by decide +kernel
theorem dX8_sell_75 : decode cX8_sell 75 = .ok (.iload_n 3, 1) := by decide +kernel
theorem dX8_sell_76 : decode cX8_sell 76 = .ok (.aload_n 0, 1) := by decide +kernel
theorem dX8_sell_77 : decode cX8_sell 77 = .ok (.getfield 89, 3) := by decide +kernel
theorem dX8_sell_80 : decode cX8_sell 80 = .ok (.iload_n 1, 1) := by decide +kernel
theorem dX8_sell_81 : decode cX8_sell 81 = .ok (.iaload, 1) := by decide +kernel
theorem dX8_sell_82 : decode cX8_sell 82 = .ok (.if_icmp .ne 7, 3) := by decide +kernel
theorem dX8_sell_85 : decode cX8_sell 85 = .ok (.iconst 2, 1) := by decide +kernel
theorem dX8_sell_86 : decode cX8_sell 86 = .ok (.goto 4, 3) := by decide +kernel
theorem dX8_sell_89 : decode cX8_sell 89 = .ok (.iconst 0, 1) := by decide +kernel
theorem dX8_sell_90 : decode cX8_sell 90 = .ok (.putfield 140, 3) := by decide +kernel
theorem dX8_sell_93 : decode cX8_sell 93 = .ok (.aload_n 0, 1) := by decide +kernel
theorem dX8_sell_94 : decode cX8_sell 94 = .ok (.getfield 140, 3) := by decide +kernel
theorem dX8_sell_97 : decode cX8_sell 97 = .ok (.ifCond .le 5, 3) := by decide +kernel
theorem dX8_sell_100 : decode cX8_sell 100 = .ok (.iconst 0, 1) := by decide +kernel
theorem dX8_sell_101 : decode cX8_sell 101 = .ok (.ireturn, 1) := by decide +kernel
theorem dX8_sell_102 : decode cX8_sell 102 = .ok (.aload_n 0, 1) := by decide +kernel
theorem dX8_sell_103 : decode cX8_sell 103 = .ok (.getfield 98, 3) := by decide +kernel
theorem dX8_sell_106 : decode cX8_sell 106 = .ok (.iload_n 1, 1) := by decide +kernel
theorem dX8_sell_107 : decode cX8_sell 107 = .ok (.iconst 1, 1) := by decide +kernel
theorem dX8_sell_108 : decode cX8_sell 108 = .ok (.bastore, 1) := by decide +kernel
theorem dX8_sell_109 : decode cX8_sell 109 = .ok (.aload_n 0, 1) := by decide +kernel
theorem dX8_sell_110 : decode cX8_sell 110 = .ok (.bipush 20, 2) := by decide +kernel
theorem dX8_sell_112 : decode cX8_sell 112 = .ok (.iload_n 1, 1) := by decide +kernel
theorem dX8_sell_113 : decode cX8_sell 113 = .ok (.imul, 1) := by decide +kernel
theorem dX8_sell_114 : decode cX8_sell 114 = .ok (.iload_n 3, 1) := by decide +kernel
theorem dX8_sell_115 : decode cX8_sell 115 = .ok (.iadd, 1) := by decide +kernel
theorem dX8_sell_116 : decode cX8_sell 116 = .ok (.iload_n 2, 1) := by decide +kernel
theorem dX8_sell_117 : decode cX8_sell 117 = .ok (.aload_n 0, 1) := by decide +kernel
theorem dX8_sell_118 : decode cX8_sell 118 = .ok (.getfield 92, 3) := by decide +kernel
theorem dX8_sell_121 : decode cX8_sell 121 = .ok (.iload_n 1, 1) := by decide +kernel
theorem dX8_sell_122 : decode cX8_sell 122 = .ok (.iaload, 1) := by decide +kernel
theorem dX8_sell_123 : decode cX8_sell 123 = .ok (.invokevirtual 245, 3) := by decide +kernel
theorem dX8_sell_126 : decode cX8_sell 126 = .ok (.aload_n 0, 1) := by decide +kernel
theorem dX8_sell_127 : decode cX8_sell 127 = .ok (.dup, 1) := by decide +kernel
theorem dX8_sell_128 : decode cX8_sell 128 = .ok (.getfield 248, 3) := by decide +kernel
theorem dX8_sell_131 : decode cX8_sell 131 = .ok (.aload_n 0, 1) := by decide +kernel
theorem dX8_sell_132 : decode cX8_sell 132 = .ok (.getfield 92, 3) := by decide +kernel
theorem dX8_sell_135 : decode cX8_sell 135 = .ok (.iload_n 1, 1) := by decide +kernel
theorem dX8_sell_136 : decode cX8_sell 136 = .ok (.iaload, 1) := by decide +kernel
theorem dX8_sell_137 : decode cX8_sell 137 = .ok (.bipush 10, 2) := by decide +kernel
theorem dX8_sell_139 : decode cX8_sell 139 = .ok (.idiv, 1) := by decide +kernel
theorem dX8_sell_140 : decode cX8_sell 140 = .ok (.iadd, 1) := by decide +kernel
theorem dX8_sell_141 : decode cX8_sell 141 = .ok (.putfield 248, 3) := by decide +kernel
theorem dX8_sell_144 : decode cX8_sell 144 = .ok (.aload_n 0, 1) := by decide +kernel
theorem dX8_sell_145 : decode cX8_sell 145 = .ok (.iload_n 1, 1) := by decide +kernel
theorem dX8_sell_146 : decode cX8_sell 146 = .ok (.aload_n 0, 1) := by decide +kernel
theorem dX8_sell_147 : decode cX8_sell 147 = .ok (.getfield 92, 3) := by decide +kernel
theorem dX8_sell_150 : decode cX8_sell 150 = .ok (.iload_n 1, 1) := by decide +kernel
theorem dX8_sell_151 : decode cX8_sell 151 = .ok (.iaload, 1) := by decide +kernel
theorem dX8_sell_152 : decode cX8_sell 152 = .ok (.aload_n 0, 1) := by decide +kernel
theorem dX8_sell_153 : decode cX8_sell 153 = .ok (.getfield 92, 3) := by decide +kernel
theorem dX8_sell_156 : decode cX8_sell 156 = .ok (.iload_n 1, 1) := by decide +kernel
theorem dX8_sell_157 : decode cX8_sell 157 = .ok (.iaload, 1) := by decide +kernel
theorem dX8_sell_158 : decode cX8_sell 158 = .ok (.bipush 10, 2) := by decide +kernel
theorem dX8_sell_160 : decode cX8_sell 160 = .ok (.idiv, 1) := by decide +kernel
theorem dX8_sell_161 : decode cX8_sell 161 = .ok (.isub, 1) := by decide +kernel
theorem dX8_sell_162 : decode cX8_sell 162 = .ok (.invokevirtual 251, 3) := by decide +kernel
theorem dX8_sell_165 : decode cX8_sell 165 = .ok (.iload_n 3, 1) := by decide +kernel
theorem dX8_sell_166 : decode cX8_sell 166 = .ok (.ireturn, 1) := by decide +kernel
theorem dX8_resell_0 : decode cX8_resell 0 = .ok (.aload_n 0, 1) := by decide +kernel
theorem dX8_resell_1 : decode cX8_resell 1 = .ok (.aload_n 0, 1) := by decide +kernel
theorem dX8_resell_2 : decode cX8_resell 2 = .ok (.iload_n 1, 1) := by decide +kernel
theorem dX8_resell_3 : decode cX8_resell 3 = .ok (.iload_n 2, 1) := by decide +kernel
theorem dX8_resell_4 : decode cX8_resell 4 = .ok (.invokevirtual 254, 3) := by decide +kernel
theorem dX8_resell_7 : decode cX8_resell 7 = .ok (.ifCond .eq 10, 3) := by decide +kernel
theorem dX8_resell_10 : decode cX8_resell 10 = .ok (.iload_n 3, 1) := by decide +kernel
theorem dX8_resell_11 : decode cX8_resell 11 = .ok (.invokestatic 242, 3) := by decide +kernel
theorem dX8_resell_14 : decode cX8_resell 14 = .ok (.ifCond .ne 7, 3) := by decide +kernel
theorem dX8_resell_17 : decode cX8_resell 17 = .ok (.iconst 1, 1) := by decide +kernel
theorem dX8_resell_18 : decode cX8_resell 18 = .ok (.goto 19, 3) := by decide +kernel
theorem dX8_resell_21 : decode cX8_resell 21 = .ok (.iload 4, 2) := by decide +kernel
theorem dX8_resell_23 : decode cX8_resell 23 = .ok (.iconst 0, 1) := by decide +kernel
theorem dX8_resell_24 : decode cX8_resell 24 = .ok (.ldc 234, 2) := by decide +kernel
theorem dX8_resell_26 : decode cX8_resell 26 = .ok (.invokestatic 144, 3) := by decide +kernel
theorem dX8_resell_29 : decode cX8_resell 29 = .ok (.ifCond .eq 7, 3) := by decide +kernel
theorem dX8_resell_32 : decode cX8_resell 32 = .ok (.iconst 0, 1) := by decide +kernel
theorem dX8_resell_33 : decode cX8_resell 33 = .ok (.goto 4, 3) := by decide +kernel
theorem dX8_resell_36 : decode cX8_resell 36 = .ok (.iconst 2, 1) := by decide +kernel
theorem dX8_resell_37 : decode cX8_resell 37 = .ok (.putfield 140, 3) := by decide +kernel
theorem dX8_resell_40 : decode cX8_resell 40 = .ok (.aload_n 0, 1) := by decide +kernel
theorem dX8_resell_41 : decode cX8_resell 41 = .ok (.getfield 140, 3) := by decide +kernel
theorem dX8_resell_44 : decode cX8_resell 44 = .ok (.ifCond .le 5, 3) := by decide +kernel
theorem dX8_resell_47 : decode cX8_resell 47 = .ok (.iconst 0, 1) := by decide +kernel
theorem dX8_resell_48 : decode cX8_resell 48 = .ok (.ireturn, 1) := by decide +kernel
theorem dX8_resell_49 : decode cX8_resell 49 = .ok (.bipush 20, 2) := by decide +kernel
theorem dX8_resell_51 : decode cX8_resell 51 = .ok (.iload_n 1, 1) := by decide +kernel
theorem dX8_resell_52 : decode cX8_resell 52 = .ok (.imul, 1) := by decide +kernel
theorem dX8_resell_53 : decode cX8_resell 53 = .ok (.iload_n 2, 1) := by decide +kernel
theorem dX8_resell_54 : decode cX8_resell 54 = .ok (.iadd, 1) := by decide +kernel
theorem dX8_resell_55 : decode cX8_resell 55 = .ok (.istore 5, 2) := by decide +kernel
theorem dX8_resell_57 : decode cX8_resell 57 = .ok (.aload_n 0, 1) := by decide +kernel
theorem dX8_resell_58 : decode cX8_resell 58 = .ok (.aload_n 0, 1) := by decide +kernel
theorem dX8_resell_59 : decode cX8_resell 59 = .ok (.getfield 122, 3) := by decide +kernel
theorem dX8_resell_62 : decode cX8_resell 62 = .ok (.iload 5, 2) := by decide +kernel
theorem dX8_resell_64 : decode cX8_resell 64 = .ok (.iaload, 1) := by decide +kernel
theorem dX8_resell_65 : decode cX8_resell 65 = .ok (.iconst 1, 1) := by decide +kernel
theorem dX8_resell_66 : decode cX8_resell 66 = .ok (.if_icmp .ne 14, 3) := by decide +kernel
theorem dX8_resell_69 : decode cX8_resell 69 = .ok (.aload_n 0, 1) := by decide +kernel
theorem dX8_resell_70 : decode cX8_resell 70 = .ok (.getfield 125, 3) := by decide +kernel
theorem dX8_resell_73 : decode cX8_resell 73 = .ok (.iload 5, 2) := by decide +kernel
theorem dX8_resell_75 : decode cX8_resell 75 = .ok (.iaload, 1) := by decide +kernel
theorem dX8_resell_76 : decode cX8_resell 76 = .ok (.iload_n 3, 1) := by decide +kernel
theorem dX8_resell_77 : decode cX8_resell 77 = .ok (.if_icmp .ne 7, 3) := by decide +kernel
theorem dX8_resell_80 : decode cX8_resell 80 = .ok (.iconst 3, 1) := by decide +kernel
theorem dX8_resell_81 : decode cX8_resell 81 = .ok (.goto 4, 3) := by decide +kernel
theorem dX8_resell_84 : decode cX8_resell 84 = .ok (.iconst 0, 1) := by decide +kernel
theorem dX8_resell_85 : decode cX8_resell 85 = .ok (.putfield 140, 3) := by decide +kernel
theorem dX8_resell_88 : decode cX8_resell 88 = .ok (.aload_n 0, 1) := by decide +kernel
theorem dX8_resell_89 : decode cX8_resell 89 = .ok (.getfield 140, 3) := by decide +kernel
theorem dX8_resell_92 : decode cX8_resell 92 = .ok (.ifCond .le 5, 3) := by decide +kernel
theorem dX8_resell_95 : decode cX8_resell 95 = .ok (.iconst 0, 1) := by decide +kernel
theorem dX8_resell_96 : decode cX8_resell 96 = .ok (.ireturn, 1) := by decide +kernel
theorem dX8_resell_97 : decode cX8_resell 97 = .ok (.aload_n 0, 1) := by decide +kernel
theorem dX8_resell_98 : decode cX8_resell 98 = .ok (.getfield 137, 3) := by decide +kernel
theorem dX8_resell_101 : decode cX8_resell 101 = .ok (.aload_n 0, 1) := by decide +kernel
theorem dX8_resell_102 : decode cX8_resell 102 = .ok (.getfield 125, 3) := by decide +kernel
theorem dX8_resell_105 : decode cX8_resell 105 = .ok (.iload 5, 2) := by decide +kernel
theorem dX8_resell_107 : decode cX8_resell 107 = .ok (.iaload, 1) := by decide +kernel
theorem dX8_resell_108 : decode cX8_resell 108 = .ok (.dup2, 1) := by decide +kernel
theorem dX8_resell_109 : decode cX8_resell 109 = .ok (.iaload, 1) := by decide +kernel
theorem dX8_resell_110 : decode cX8_resell 110 = .ok (.iload 4, 2) := by decide +kernel
theorem dX8_resell_112 : decode cX8_resell 112 = .ok (.iload 4, 2) := by decide +kernel
theorem dX8_resell_114 : decode cX8_resell 114 = .ok (.iconst 5, 1) := by decide +kernel
theorem dX8_resell_115 : decode cX8_resell 115 = .ok (.idiv, 1) := by decide +kernel
theorem dX8_resell_116 : decode cX8_resell 116 = .ok (.isub, 1) := by decide +kernel
theorem dX8_resell_117 : decode cX8_resell 117 = .ok (.iadd, 1) := by decide +kernel
theorem dX8_resell_118 : decode cX8_resell 118 = .ok (.iastore, 1) := by decide +kernel
theorem dX8_resell_119 : decode cX8_resell 119 = .ok (.aload_n 0, 1) := by decide +kernel
theorem dX8_resell_120 : decode cX8_resell 120 = .ok (.iload 5, 2) := by decide +kernel
theorem dX8_resell_122 : decode cX8_resell 122 = .ok (.iload_n 3, 1) := by decide +kernel
theorem dX8_resell_123 : decode cX8_resell 123 = .ok (.iload 4, 2) := by decide +kernel
theorem dX8_resell_125 : decode cX8_resell 125 = .ok (.invokevirtual 245, 3) := by decide +kernel
theorem dX8_resell_128 : decode cX8_resell 128 = .ok (.aload_n 0, 1) := by decide +kernel
theorem dX8_resell_129 : decode cX8_resell 129 = .ok (.iload_n 1, 1) := by decide +kernel
theorem dX8_resell_130 : decode cX8_resell 130 = .ok (.iload 4, 2) := by decide +kernel
theorem dX8_resell_132 : decode cX8_resell 132 = .ok (.iconst 5, 1) := by decide +kernel
theorem dX8_resell_133 : decode cX8_resell 133 = .ok (.idiv, 1) := by decide +kernel
theorem dX8_resell_134 : decode cX8_resell 134 = .ok (.invokevirtual 251, 3) := by decide +kernel
theorem dX8_resell_137 : decode cX8_resell 137 = .ok (.iload 4, 2) := by decide +kernel
theorem dX8_resell_139 : decode cX8_resell 139 = .ok (.iconst 5, 1) := by decide +kernel
theorem dX8_resell_140 : decode cX8_resell 140 = .ok (.idiv, 1) := by decide +kernel
theorem dX8_resell_141 : decode cX8_resell 141 = .ok (.ireturn, 1) := by decide +kernel
theorem dX8_takeDown_0 : decode cX8_takeDown 0 = .ok (.aload_n 0, 1) := by decide +kernel
theorem dX8_takeDown_1 : decode cX8_takeDown 1 = .ok (.aload_n 0, 1) := by decide +kernel
theorem dX8_takeDown_2 : decode cX8_takeDown 2 = .ok (.iload_n 1, 1) := by decide +kernel
theorem dX8_takeDown_3 : decode cX8_takeDown 3 = .ok (.invokevirtual 203, 3) := by decide +kernel
theorem dX8_takeDown_6 : decode cX8_takeDown 6 = .ok (.ifCond .eq 7, 3) := by decide +kernel
theorem dX8_takeDown_9 : decode cX8_takeDown 9 = .ok (.iconst 0, 1) := by decide +kernel
theorem dX8_takeDown_10 : decode cX8_takeDown 10 = .ok (.goto 4, 3) := by decide +kernel
theorem dX8_takeDown_13 : decode cX8_takeDown 13 = .ok (.iconst 1, 1) := by decide +kernel
theorem dX8_takeDown_14 : decode cX8_takeDown 14 = .ok (.putfield 140, 3) := by decide +kernel
theorem dX8_takeDown_17 : decode cX8_takeDown 17 = .ok (.aload_n 0, 1) := by decide +kernel
theorem dX8_takeDown_18 : decode cX8_takeDown 18 = .ok (.getfield 140, 3) := by decide +kernel
theorem dX8_takeDown_21 : decode cX8_takeDown 21 = .ok (.ifCond .le 5, 3) := by decide +kernel
theorem dX8_takeDown_24 : decode cX8_takeDown 24 = .ok (.iconst 0, 1) := by decide +kernel
theorem dX8_takeDown_25 : decode cX8_takeDown 25 = .ok (.ireturn, 1) := by decide +kernel
theorem dX8_takeDown_26 : decode cX8_takeDown 26 = .ok (.aload_n 0, 1) := by decide +kernel
theorem dX8_takeDown_27 : decode cX8_takeDown 27 = .ok (.aload_n 0, 1) := by decide +kernel
theorem dX8_takeDown_28 : decode cX8_takeDown 28 = .ok (.getfield 53, 3) := by decide +kernel
theorem dX8_takeDown_31 : decode cX8_takeDown 31 = .ok (.iload_n 1, 1) := by decide +kernel
theorem dX8_takeDown_32 : decode cX8_takeDown 32 = .ok (.baload, 1) := by decide +kernel
theorem dX8_takeDown_33 : decode cX8_takeDown 33 = .ok (.ifCond .eq 7, 3) := by decide +kernel
theorem dX8_takeDown_36 : decode cX8_takeDown 36 = .ok (.iconst 2, 1) := by decide +kernel
theorem dX8_takeDown_37 : decode cX8_takeDown 37 = .ok (.goto 4, 3) := by decide +kernel
theorem dX8_takeDown_40 : decode cX8_takeDown 40 = .ok (.iconst 0, 1) := by decide +kernel
theorem dX8_takeDown_41 : decode cX8_takeDown 41 = .ok (.putfield 140, 3) := by decide +kernel
theorem dX8_takeDown_44 : decode cX8_takeDown 44 = .ok (.aload_n 0, 1) := by decide +kernel
theorem dX8_takeDown_45 : decode cX8_takeDown 45 = .ok (.getfield 140, 3) := by decide +kernel
theorem dX8_takeDown_48 : decode cX8_takeDown 48 = .ok (.ifCond .le 5, 3) := by decide +kernel
theorem dX8_takeDown_51 : decode cX8_takeDown 51 = .ok (.iconst 0, 1) := by decide +kernel
theorem dX8_takeDown_52 : decode cX8_takeDown 52 = .ok (.ireturn, 1) := by decide +kernel
theorem dX8_takeDown_53 : decode cX8_takeDown 53 = .ok (.iconst 0, 1) := by decide +kernel
theorem dX8_takeDown_54 : decode cX8_takeDown 54 = .ok (.istore_n 2, 1) := by decide +kernel
theorem dX8_takeDown_55 : decode cX8_takeDown 55 = .ok (.iconst 0, 1) := by decide +kernel
theorem dX8_takeDown_56 : decode cX8_takeDown 56 = .ok (.istore_n 3, 1) := by decide +kernel
theorem dX8_takeDown_57 : decode cX8_takeDown 57 = .ok (.iload_n 3, 1) := by decide +kernel
theorem dX8_takeDown_58 : decode cX8_takeDown 58 = .ok (.sipush 160, 3) := by decide +kernel
theorem dX8_takeDown_61 : decode cX8_takeDown 61 = .ok (.if_icmp .ge 64, 3) := by decide +kernel
theorem dX8_takeDown_64 : decode cX8_takeDown 64 = .ok (.iload_n 3, 1) := by decide +kernel
theorem dX8_takeDown_65 : decode cX8_takeDown 65 = .ok (.bipush 20, 2) := by decide +kernel
theorem dX8_takeDown_67 : decode cX8_takeDown 67 = .ok (.idiv, 1) := by decide +kernel
theorem dX8_takeDown_68 : decode cX8_takeDown 68 = .ok (.aload_n 0, 1) := by decide +kernel
theorem dX8_takeDown_69 : decode cX8_takeDown 69 = .ok (.getfield 154, 3) := by decide +kernel
theorem dX8_takeDown_72 : decode cX8_takeDown 72 = .ok (.if_icmp .ge 47, 3) := by decide +kernel
theorem dX8_takeDown_75 : decode cX8_takeDown 75 = .ok (.aload_n 0, 1) := by decide +kernel
theorem dX8_takeDown_76 : decode cX8_takeDown 76 = .ok (.getfield 122, 3) := by decide +kernel
theorem dX8_takeDown_79 : decode cX8_takeDown 79 = .ok (.iload_n 3, 1) := by decide +kernel
theorem dX8_takeDown_80 : decode cX8_takeDown 80 = .ok (.iaload, 1) := by decide +kernel
theorem dX8_takeDown_81 : decode cX8_takeDown 81 = .ok (.iconst 1, 1) := by decide +kernel
theorem dX8_takeDown_82 : decode cX8_takeDown 82 = .ok (.if_icmp .ne 37, 3) := by decide +kernel
theorem dX8_takeDown_85 : decode cX8_takeDown 85 = .ok (.aload_n 0, 1) := by decide +kernel
theorem dX8_takeDown_86 : decode cX8_takeDown 86 = .ok (.iload_n 3, 1) := by decide +kernel
theorem dX8_takeDown_87 : decode cX8_takeDown 87 = .ok (.bipush 20, 2) := by decide +kernel
theorem dX8_takeDown_89 : decode cX8_takeDown 89 = .ok (.idiv, 1) := by decide +kernel
theorem dX8_takeDown_90 : decode cX8_takeDown 90 = .ok (.iload_n 1, 1) := by decide +kernel
theorem dX8_takeDown_91 : decode cX8_takeDown 91 = .ok (.invokevirtual 230, 3) := by decide +kernel
theorem dX8_takeDown_94 : decode cX8_takeDown 94 = .ok (.ifCond .eq 25, 3) := by decide +kernel
theorem dX8_takeDown_97 : decode cX8_takeDown 97 = .ok (.aload_n 0, 1) := by decide +kernel
theorem dX8_takeDown_98 : decode cX8_takeDown 98 = .ok (.getfield 122, 3) := by decide +kernel
theorem dX8_takeDown_101 : decode cX8_takeDown 101 = .ok (.iload_n 3, 1) := by decide +kernel
theorem dX8_takeDown_102 : decode cX8_takeDown 102 = .ok (.iconst 2, 1) := by decide +kernel
theorem dX8_takeDown_103 : decode cX8_takeDown 103 = .ok (.iastore, 1) := by decide +kernel
theorem dX8_takeDown_104 : decode cX8_takeDown 104 = .ok (.aload_n 0, 1) := by decide +kernel
theorem dX8_takeDown_105 : decode cX8_takeDown 105 = .ok (.getfield 131, 3) := by decide +kernel
theorem dX8_takeDown_108 : decode cX8_takeDown 108 = .ok (.iload_n 3, 1) := by decide +kernel
theorem dX8_takeDown_109 : decode cX8_takeDown 109 = .ok (.aload_n 0, 1) := by decide +kernel
theorem dX8_takeDown_110 : decode cX8_takeDown 110 = .ok (.getfield 35, 3) := by decide +kernel
theorem dX8_takeDown_113 : decode cX8_takeDown 113 = .ok (.iload_n 1, 1) := by decide +kernel
theorem dX8_takeDown_114 : decode cX8_takeDown 114 = .ok (.iaload, 1) := by decide +kernel
theorem dX8_takeDown_115 : decode cX8_takeDown 115 = .ok (.iastore, 1) := by decide +kernel
theorem dX8_takeDown_116 : decode cX8_takeDown 116 = .ok (.iinc 2 1, 3) := by decide +kernel
theorem dX8_takeDown_119 : decode cX8_takeDown 119 = .ok (.iinc 3 1, 3) := by decide +kernel
theorem dX8_takeDown_122 : decode cX8_takeDown 122 = .ok (.goto (-65), 3) := by decide +kernel
theorem dX8_takeDown_125 : decode cX8_takeDown 125 = .ok (.aload_n 0, 1) := by decide +kernel
theorem dX8_takeDown_126 : decode cX8_takeDown 126 = .ok (.getfield 53, 3) := by decide +kernel
theorem dX8_takeDown_129 : decode cX8_takeDown 129 = .ok (.iload_n 1, 1) := by decide +kernel
theorem dX8_takeDown_130 : decode cX8_takeDown 130 = .ok (.iconst 1, 1) := by decide +kernel
theorem dX8_takeDown_131 : decode cX8_takeDown 131 = .ok (.bastore, 1) := by decide +kernel
theorem dX8_takeDown_132 : decode cX8_takeDown 132 = .ok (.iload_n 2, 1) := by decide +kernel
theorem dX8_takeDown_133 : decode cX8_takeDown 133 = .ok (.ireturn, 1) := by decide +kernel
theorem dX8_changed_0 : decode cX8_changed 0 = .ok (.aload_n 0, 1) := by decide +kernel
theorem dX8_changed_1 : decode cX8_changed 1 = .ok (.iload_n 1, 1) := by decide +kernel
theorem dX8_changed_2 : decode cX8_changed 2 = .ok (.iload_n 2, 1) := by decide +kernel
theorem dX8_changed_3 : decode cX8_changed 3 = .ok (.invokevirtual 254, 3) := by decide +kernel
theorem dX8_changed_6 : decode cX8_changed 6 = .ok (.ifCond .ne 5, 3) := by decide +kernel
theorem dX8_changed_9 : decode cX8_changed 9 = .ok (.iconst 1, 1) := by decide +kernel
theorem dX8_changed_10 : decode cX8_changed 10 = .ok (.ireturn, 1) := by decide +kernel
theorem dX8_changed_11 : decode cX8_changed 11 = .ok (.aload_n 0, 1) := by decide +kernel
theorem dX8_changed_12 : decode cX8_changed 12 = .ok (.getfield 122, 3) := by decide +kernel
theorem dX8_changed_15 : decode cX8_changed 15 = .ok (.bipush 20, 2) := by decide +kernel
theorem dX8_changed_17 : decode cX8_changed 17 = .ok (.iload_n 1, 1) := by decide +kernel
theorem dX8_changed_18 : decode cX8_changed 18 = .ok (.imul, 1) := by decide +kernel
theorem dX8_changed_19 : decode cX8_changed 19 = .ok (.iload_n 2, 1) := by decide +kernel
theorem dX8_changed_20 : decode cX8_changed 20 = .ok (.iadd, 1) := by decide +kernel
theorem dX8_changed_21 : decode cX8_changed 21 = .ok (.iaload, 1) := by decide +kernel
theorem dX8_changed_22 : decode cX8_changed 22 = .ok (.iconst 2, 1) := by decide +kernel
theorem dX8_changed_23 : decode cX8_changed 23 = .ok (.if_icmp .ne 7, 3) := by decide +kernel
theorem dX8_changed_26 : decode cX8_changed 26 = .ok (.iconst 0, 1) := by decide +kernel
theorem dX8_changed_27 : decode cX8_changed 27 = .ok (.goto 4, 3) := by decide +kernel
theorem dX8_changed_30 : decode cX8_changed 30 = .ok (.iconst 2, 1) := by decide +kernel
theorem dX8_changed_31 : decode cX8_changed 31 = .ok (.ireturn, 1) := by decide +kernel
theorem dX8_accept_0 : decode cX8_accept 0 = .ok (.aload_n 0, 1) := by decide +kernel
theorem dX8_accept_1 : decode cX8_accept 1 = .ok (.aload_n 0, 1) := by decide +kernel
theorem dX8_accept_2 : decode cX8_accept 2 = .ok (.iload_n 1, 1) := by decide +kernel
theorem dX8_accept_3 : decode cX8_accept 3 = .ok (.iload_n 2, 1) := by decide +kernel
theorem dX8_accept_4 : decode cX8_accept 4 = .ok (.invokevirtual 257, 3) := by decide +kernel
theorem dX8_accept_7 : decode cX8_accept 7 = .ok (.putfield 140, 3) := by decide +kernel
theorem dX8_accept_10 : decode cX8_accept 10 = .ok (.aload_n 0, 1) := by decide +kernel
theorem dX8_accept_11 : decode cX8_accept 11 = .ok (.getfield 140, 3) := by decide +kernel
theorem dX8_accept_14 : decode cX8_accept 14 = .ok (.ifCond .le 5, 3) := by decide +kernel
theorem dX8_accept_17 : decode cX8_accept 17 = .ok (.iconst 0, 1) := by decide +kernel
theorem dX8_accept_18 : decode cX8_accept 18 = .ok (.ireturn, 1) := by decide +kernel
theorem dX8_accept_19 : decode cX8_accept 19 = .ok (.aload_n 0, 1) := by decide +kernel
theorem dX8_accept_20 : decode cX8_accept 20 = .ok (.getfield 122, 3) := by decide +kernel
theorem dX8_accept_23 : decode cX8_accept 23 = .ok (.bipush 20, 2) := by decide +kernel
theorem dX8_accept_25 : decode cX8_accept 25 = .ok (.iload_n 1, 1) := by decide +kernel
theorem dX8_accept_26 : decode cX8_accept 26 = .ok (.imul, 1) := by decide +kernel
theorem dX8_accept_27 : decode cX8_accept 27 = .ok (.iload_n 2, 1) := by decide +kernel
theorem dX8_accept_28 : decode cX8_accept 28 = .ok (.iadd, 1) := by decide +kernel
theorem dX8_accept_29 : decode cX8_accept 29 = .ok (.iconst 1, 1) := by decide +kernel
theorem dX8_accept_30 : decode cX8_accept 30 = .ok (.iastore, 1) := by decide +kernel
theorem dX8_accept_31 : decode cX8_accept 31 = .ok (.aload_n 0, 1) := by decide +kernel
theorem dX8_accept_32 : decode cX8_accept 32 = .ok (.getfield 125, 3) := by decide +kernel
theorem dX8_accept_35 : decode cX8_accept 35 = .ok (.bipush 20, 2) := by decide +kernel
theorem dX8_accept_37 : decode cX8_accept 37 = .ok (.iload_n 1, 1) := by decide +kernel
theorem dX8_accept_38 : decode cX8_accept 38 = .ok (.imul, 1) := by decide +kernel
theorem dX8_accept_39 : decode cX8_accept 39 = .ok (.iload_n 2, 1) := by decide +kernel
theorem dX8_accept_40 : decode cX8_accept 40 = .ok (.iadd, 1) := by decide +kernel
theorem dX8_accept_41 : decode cX8_accept 41 = .ok (.iaload, 1) := by decide +kernel
theorem dX8_accept_42 : decode cX8_accept 42 = .ok (.ireturn, 1) := by decide +kernel
theorem dX8_giveBack_0 : decode cX8_giveBack 0 = .ok (.aload_n 0, 1) := by decide +kernel
theorem dX8_giveBack_1 : decode cX8_giveBack 1 = .ok (.aload_n 0, 1) := by decide +kernel
theorem dX8_giveBack_2 : decode cX8_giveBack 2 = .ok (.iload_n 1, 1) := by decide +kernel
theorem dX8_giveBack_3 : decode cX8_giveBack 3 = .ok (.iload_n 2, 1) := by decide +kernel
theorem dX8_giveBack_4 : decode cX8_giveBack 4 = .ok (.invokevirtual 257, 3) := by decide +kernel
theorem dX8_giveBack_7 : decode cX8_giveBack 7 = .ok (.putfield 140, 3) := by decide +kernel
theorem dX8_giveBack_10 : decode cX8_giveBack 10 = .ok (.aload_n 0, 1) := by decide +kernel
theorem dX8_giveBack_11 : decode cX8_giveBack 11 = .ok (.getfield 140, 3) := by decide +kernel
theorem dX8_giveBack_14 : decode cX8_giveBack 14 = .ok (.ifCond .le 5, 3) := by decide +kernel
theorem dX8_giveBack_17 : decode cX8_giveBack 17 = .ok (.iconst 0, 1) := by decide +kernel
theorem dX8_giveBack_18 : decode cX8_giveBack 18 = .ok (.ireturn, 1) := by decide +kernel
theorem dX8_giveBack_19 : decode cX8_giveBack 19 = .ok (.bipush 20, 2) := by decide +kernel
theorem dX8_giveBack_21 : decode cX8_giveBack 21 = .ok (.iload_n 1, 1) := by decide +kernel
theorem dX8_giveBack_22 : decode cX8_giveBack 22 = .ok (.imul, 1) := by decide +kernel
theorem dX8_giveBack_23 : decode cX8_giveBack 23 = .ok (.iload_n 2, 1) := by decide +kernel
theorem dX8_giveBack_24 : decode cX8_giveBack 24 = .ok (.iadd, 1) := by decide +kernel
theorem dX8_giveBack_25 : decode cX8_giveBack 25 = .ok (.istore_n 3, 1) := by decide +kernel
theorem dX8_giveBack_26 : decode cX8_giveBack 26 = .ok (.aload_n 0, 1) := by decide +kernel
theorem dX8_giveBack_27 : decode cX8_giveBack 27 = .ok (.getfield 122, 3) := by decide +kernel
theorem dX8_giveBack_30 : decode cX8_giveBack 30 = .ok (.iload_n 3, 1) := by decide +kernel
theorem dX8_giveBack_31 : decode cX8_giveBack 31 = .ok (.iconst 3, 1) := by decide +kernel
theorem dX8_giveBack_32 : decode cX8_giveBack 32 = .ok (.iastore, 1) := by decide +kernel
theorem dX8_giveBack_33 : decode cX8_giveBack 33 = .ok (.aload_n 0, 1) := by decide +kernel
theorem dX8_giveBack_34 : decode cX8_giveBack 34 = .ok (.getfield 137, 3) := by decide +kernel
theorem dX8_giveBack_37 : decode cX8_giveBack 37 = .ok (.aload_n 0, 1) := by decide +kernel
theorem dX8_giveBack_38 : decode cX8_giveBack 38 = .ok (.getfield 125, 3) := by decide +kernel
theorem dX8_giveBack_41 : decode cX8_giveBack 41 = .ok (.iload_n 3, 1) := by decide +kernel
theorem dX8_giveBack_42 : decode cX8_giveBack 42 = .ok (.iaload, 1) := by decide +kernel
theorem dX8_giveBack_43 : decode cX8_giveBack 43 = .ok (.dup2, 1) := by decide +kernel
theorem dX8_giveBack_44 : decode cX8_giveBack 44 = .ok (.iaload, 1) := by decide +kernel
theorem dX8_giveBack_45 : decode cX8_giveBack 45 = .ok (.aload_n 0, 1) := by decide +kernel
theorem dX8_giveBack_46 : decode cX8_giveBack 46 = .ok (.getfield 128, 3) := by decide +kernel
theorem dX8_giveBack_49 : decode cX8_giveBack 49 = .ok (.iload_n 3, 1) := by decide +kernel
theorem dX8_giveBack_50 : decode cX8_giveBack 50 = .ok (.iaload, 1) := by decide +kernel
theorem dX8_giveBack_51 : decode cX8_giveBack 51 = .ok (.iadd, 1) := by decide +kernel
theorem dX8_giveBack_52 : decode cX8_giveBack 52 = .ok (.iastore, 1) := by decide +kernel
theorem dX8_giveBack_53 : decode cX8_giveBack 53 = .ok (.aload_n 0, 1) := by decide +kernel
theorem dX8_giveBack_54 : decode cX8_giveBack 54 = .ok (.getfield 134, 3) := by decide +kernel
theorem dX8_giveBack_57 : decode cX8_giveBack 57 = .ok (.aload_n 0, 1) := by decide +kernel
theorem dX8_giveBack_58 : decode cX8_giveBack 58 = .ok (.getfield 131, 3) := by decide +kernel
theorem dX8_giveBack_61 : decode cX8_giveBack 61 = .ok (.iload_n 3, 1) := by decide +kernel
theorem dX8_giveBack_62 : decode cX8_giveBack 62 = .ok (.iaload, 1) := by decide +kernel
theorem dX8_giveBack_63 : decode cX8_giveBack 63 = .ok (.dup2, 1) := by decide +kernel
theorem dX8_giveBack_64 : decode cX8_giveBack 64 = .ok (.iaload, 1) := by decide +kernel
theorem dX8_giveBack_65 : decode cX8_giveBack 65 = .ok (.aload_n 0, 1) := by decide +kernel
theorem dX8_giveBack_66 : decode cX8_giveBack 66 = .ok (.getfield 128, 3) := by decide +kernel
theorem dX8_giveBack_69 : decode cX8_giveBack 69 = .ok (.iload_n 3, 1) := by decide +kernel
theorem dX8_giveBack_70 : decode cX8_giveBack 70 = .ok (.iaload, 1) := by decide +kernel
theorem dX8_giveBack_71 : decode cX8_giveBack 71 = .ok (.isub, 1) := by decide +kernel
theorem dX8_giveBack_72 : decode cX8_giveBack 72 = .ok (.iastore, 1) := by decide +kernel
theorem dX8_giveBack_73 : decode cX8_giveBack 73 = .ok (.aload_n 0, 1) := by decide +kernel
theorem dX8_giveBack_74 : decode cX8_giveBack 74 = .ok (.getfield 128, 3) := by decide +kernel
theorem dX8_giveBack_77 : decode cX8_giveBack 77 = .ok (.iload_n 3, 1) := by decide +kernel
theorem dX8_giveBack_78 : decode cX8_giveBack 78 = .ok (.iaload, 1) := by decide +kernel
theorem dX8_giveBack_79 : decode cX8_giveBack 79 = .ok (.ireturn, 1) := by decide +kernel
theorem dX8_copyState_0 : decode cX8_copyState 0 = .ok (.aload_n 0, 1) := by decide +kernel
theorem dX8_copyState_1 : decode cX8_copyState 1 = .ok (.aload_n 0, 1) := by decide +kernel
theorem dX8_copyState_2 : decode cX8_copyState 2 = .ok (.iload_n 1, 1) := by decide +kernel
theorem dX8_copyState_3 : decode cX8_copyState 3 = .ok (.iload_n 2, 1) := by decide +kernel
theorem dX8_copyState_4 : decode cX8_copyState 4 = .ok (.invokevirtual 254, 3) := by decide +kernel
theorem dX8_copyState_7 : decode cX8_copyState 7 = .ok (.ifCond .eq 7, 3) := by decide +kernel
theorem dX8_copyState_10 : decode cX8_copyState 10 = .ok (.iconst 0, 1) := by decide +kernel
theorem dX8_copyState_11 : decode cX8_copyState 11 = .ok (.goto 4, 3) := by decide +kernel
theorem dX8_copyState_14 : decode cX8_copyState 14 = .ok (.iconst 1, 1) := by decide +kernel
theorem dX8_copyState_15 : decode cX8_copyState 15 = .ok (.putfield 140, 3) := by decide +kernel
theorem dX8_copyState_18 : decode cX8_copyState 18 = .ok (.aload_n 0, 1) := by decide +kernel
theorem dX8_copyState_19 : decode cX8_copyState 19 = .ok (.getfield 140, 3) := by decide +kernel
theorem dX8_copyState_22 : decode cX8_copyState 22 = .ok (.ifCond .le 7, 3) := by decide +kernel
theorem dX8_copyState_25 : decode cX8_copyState 25 = .ok (.iconst 0, 1) := by decide +kernel
theorem dX8_copyState_26 : decode cX8_copyState 26 = .ok (.goto 14, 3) := by decide +kernel
theorem dX8_copyState_29 : decode cX8_copyState 29 = .ok (.aload_n 0, 1) := by decide +kernel
theorem dX8_copyState_30 : decode cX8_copyState 30 = .ok (.getfield 122, 3) := by decide +kernel
theorem dX8_copyState_33 : decode cX8_copyState 33 = .ok (.bipush 20, 2) := by decide +kernel
theorem dX8_copyState_35 : decode cX8_copyState 35 = .ok (.iload_n 1, 1) := by decide +kernel
theorem dX8_copyState_36 : decode cX8_copyState 36 = .ok (.imul, 1) := by decide +kernel
theorem dX8_copyState_37 : decode cX8_copyState 37 = .ok (.iload_n 2, 1) := by decide +kernel
theorem dX8_copyState_38 : decode cX8_copyState 38 = .ok (.iadd, 1) := by decide +kernel
theorem dX8_copyState_39 : decode cX8_copyState 39 = .ok (.iaload, 1) := by decide +kernel
theorem dX8_copyState_40 : decode cX8_copyState 40 = .ok (.ireturn, 1) := by decide +kernel
theorem dX8_owner_0 : decode cX8_owner 0 = .ok (.aload_n 0, 1) := by decide +kernel
theorem dX8_owner_1 : decode cX8_owner 1 = .ok (.aload_n 0, 1) := by decide +kernel
theorem dX8_owner_2 : decode cX8_owner 2 = .ok (.iload_n 1, 1) := by decide +kernel
theorem dX8_owner_3 : decode cX8_owner 3 = .ok (.iload_n 2, 1) := by decide +kernel
theorem dX8_owner_4 : decode cX8_owner 4 = .ok (.invokevirtual 254, 3) := by decide +kernel
theorem dX8_owner_7 : decode cX8_owner 7 = .ok (.ifCond .eq 7, 3) := by decide +kernel
theorem dX8_owner_10 : decode cX8_owner 10 = .ok (.iconst 0, 1) := by decide +kernel
theorem dX8_owner_11 : decode cX8_owner 11 = .ok (.goto 4, 3) := by decide +kernel
theorem dX8_owner_14 : decode cX8_owner 14 = .ok (.iconst 1, 1) := by decide +kernel
theorem dX8_owner_15 : decode cX8_owner 15 = .ok (.putfield 140, 3) := by decide +kernel
theorem dX8_owner_18 : decode cX8_owner 18 = .ok (.aload_n 0, 1) := by decide +kernel
theorem dX8_owner_19 : decode cX8_owner 19 = .ok (.getfield 140, 3) := by decide +kernel
theorem dX8_owner_22 : decode cX8_owner 22 = .ok (.ifCond .le 5, 3) := by decide +kernel
theorem dX8_owner_25 : decode cX8_owner 25 = .ok (.iconst 0, 1) := by decide +kernel
theorem dX8_owner_26 : decode cX8_owner 26 = .ok (.ireturn, 1) := by decide +kernel
theorem dX8_owner_27 : decode cX8_owner 27 = .ok (.bipush 20, 2) := by decide +kernel
theorem dX8_owner_29 : decode cX8_owner 29 = .ok (.iload_n 1, 1) := by decide +kernel
theorem dX8_owner_30 : decode cX8_owner 30 = .ok (.imul, 1) := by decide +kernel
theorem dX8_owner_31 : decode cX8_owner 31 = .ok (.iload_n 2, 1) := by decide +kernel
theorem dX8_owner_32 : decode cX8_owner 32 = .ok (.iadd, 1) := by decide +kernel
theorem dX8_owner_33 : decode cX8_owner 33 = .ok (.istore_n 3, 1) := by decide +kernel
theorem dX8_owner_34 : decode cX8_owner 34 = .ok (.aload_n 0, 1) := by decide +kernel
theorem dX8_owner_35 : decode cX8_owner 35 = .ok (.getfield 122, 3) := by decide +kernel
theorem dX8_owner_38 : decode cX8_owner 38 = .ok (.iload_n 3, 1) := by decide +kernel
theorem dX8_owner_39 : decode cX8_owner 39 = .ok (.iaload, 1) := by decide +kernel
theorem dX8_owner_40 : decode cX8_owner 40 = .ok (.iconst 1, 1) := by decide +kernel
theorem dX8_owner_41 : decode cX8_owner 41 = .ok (.if_icmp .eq 13, 3) := by decide +kernel
theorem dX8_owner_44 : decode cX8_owner 44 = .ok (.aload_n 0, 1) := by decide +kernel
theorem dX8_owner_45 : decode cX8_owner 45 = .ok (.getfield 122, 3) := by decide +kernel
theorem dX8_owner_48 : decode cX8_owner 48 = .ok (.iload_n 3, 1) := by decide +kernel
theorem dX8_owner_49 : decode cX8_owner 49 = .ok (.iaload, 1) := by decide +kernel
theorem dX8_owner_50 : decode cX8_owner 50 = .ok (.iconst 2, 1) := by decide +kernel
theorem dX8_owner_51 : decode cX8_owner 51 = .ok (.if_icmp .ne 12, 3) := by decide +kernel
theorem dX8_owner_54 : decode cX8_owner 54 = .ok (.aload_n 0, 1) := by decide +kernel
theorem dX8_owner_55 : decode cX8_owner 55 = .ok (.getfield 125, 3) := by decide +kernel
theorem dX8_owner_58 : decode cX8_owner 58 = .ok (.iload_n 3, 1) := by decide +kernel
theorem dX8_owner_59 : decode cX8_owner 59 = .ok (.iaload, 1) := by decide +kernel
theorem dX8_owner_60 : decode cX8_owner 60 = .ok (.goto 4, 3) := by decide +kernel
theorem dX8_owner_63 : decode cX8_owner 63 = .ok (.iconst (-1), 1) := by decide +kernel
theorem dX8_owner_64 : decode cX8_owner 64 = .ok (.ireturn, 1) := by decide +kernel
theorem dX8_money_0 : decode cX8_money 0 = .ok (.aload_n 0, 1) := by decide +kernel
theorem dX8_money_1 : decode cX8_money 1 = .ok (.iload_n 1, 1) := by decide +kernel
theorem dX8_money_2 : decode cX8_money 2 = .ok (.invokestatic 196, 3) := by decide +kernel
theorem dX8_money_5 : decode cX8_money 5 = .ok (.ifCond .eq 7, 3) := by decide +kernel
theorem dX8_money_8 : decode cX8_money 8 = .ok (.iconst 0, 1) := by decide +kernel
theorem dX8_money_9 : decode cX8_money 9 = .ok (.goto 4, 3) := by decide +kernel
theorem dX8_money_12 : decode cX8_money 12 = .ok (.iconst 1, 1) := by decide +kernel
theorem dX8_money_13 : decode cX8_money 13 = .ok (.putfield 140, 3) := by decide +kernel
theorem dX8_money_16 : decode cX8_money 16 = .ok (.aload_n 0, 1) := by decide +kernel
theorem dX8_money_17 : decode cX8_money 17 = .ok (.getfield 140, 3) := by decide +kernel
theorem dX8_money_20 : decode cX8_money 20 = .ok (.ifCond .le 7, 3) := by decide +kernel
theorem dX8_money_23 : decode cX8_money 23 = .ok (.iconst 0, 1) := by decide +kernel
theorem dX8_money_24 : decode cX8_money 24 = .ok (.goto 9, 3) := by decide +kernel
theorem dX8_money_27 : decode cX8_money 27 = .ok (.aload_n 0, 1) := by decide +kernel
theorem dX8_money_28 : decode cX8_money 28 = .ok (.getfield 134, 3) := by decide +kernel
theorem dX8_money_31 : decode cX8_money 31 = .ok (.iload_n 1, 1) := by decide +kernel
theorem dX8_money_32 : decode cX8_money 32 = .ok (.iaload, 1) := by decide +kernel
theorem dX8_money_33 : decode cX8_money 33 = .ok (.ireturn, 1) := by decide +kernel
theorem dX8_moneyAnew_0 : decode cX8_moneyAnew 0 = .ok (.aload_n 0, 1) := by decide +kernel
theorem dX8_moneyAnew_1 : decode cX8_moneyAnew 1 = .ok (.iload_n 1, 1) := by decide +kernel
theorem dX8_moneyAnew_2 : decode cX8_moneyAnew 2 = .ok (.invokestatic 196, 3) := by decide +kernel
theorem dX8_moneyAnew_5 : decode cX8_moneyAnew 5 = .ok (.ifCond .eq 7, 3) := by decide +kernel
theorem dX8_moneyAnew_8 : decode cX8_moneyAnew 8 = .ok (.iconst 0, 1) := by decide +kernel
theorem dX8_moneyAnew_9 : decode cX8_moneyAnew 9 = .ok (.goto 4, 3) := by decide +kernel
theorem dX8_moneyAnew_12 : decode cX8_moneyAnew 12 = .ok (.iconst 1, 1) := by decide +kernel
theorem dX8_moneyAnew_13 : decode cX8_moneyAnew 13 = .ok (.putfield 140, 3) := by decide +kernel
theorem dX8_moneyAnew_16 : decode cX8_moneyAnew 16 = .ok (.aload_n 0, 1) := by decide +kernel
theorem dX8_moneyAnew_17 : decode cX8_moneyAnew 17 = .ok (.getfield 140, 3) := by decide +kernel
theorem dX8_moneyAnew_20 : decode cX8_moneyAnew 20 = .ok (.ifCond .le 7, 3) := by decide +kernel
theorem dX8_moneyAnew_23 : decode cX8_moneyAnew 23 = .ok (.iconst 0, 1) := by decide +kernel
theorem dX8_moneyAnew_24 : decode cX8_moneyAnew 24 = .ok (.goto 9, 3) := by decide +kernel
theorem dX8_moneyAnew_27 : decode cX8_moneyAnew 27 = .ok (.aload_n 0, 1) := by decide +kernel
theorem dX8_moneyAnew_28 : decode cX8_moneyAnew 28 = .ok (.getfield 134, 3) := by decide +kernel
theorem dX8_moneyAnew_31 : decode cX8_moneyAnew 31 = .ok (.iload_n 1, 1) := by decide +kernel
theorem dX8_moneyAnew_32 : decode cX8_moneyAnew 32 = .ok (.iaload, 1) := by decide +kernel
theorem dX8_moneyAnew_33 : decode cX8_moneyAnew 33 = .ok (.ireturn, 1) := by decide +kernel
theorem dX8_purse_0 : decode cX8_purse 0 = .ok (.aload_n 0, 1) := by decide +kernel
theorem dX8_purse_1 : decode cX8_purse 1 = .ok (.iload_n 1, 1) := by decide +kernel
theorem dX8_purse_2 : decode cX8_purse 2 = .ok (.invokestatic 242, 3) := by decide +kernel
theorem dX8_purse_5 : decode cX8_purse 5 = .ok (.ifCond .eq 7, 3) := by decide +kernel
theorem dX8_purse_8 : decode cX8_purse 8 = .ok (.iconst 0, 1) := by decide +kernel
theorem dX8_purse_9 : decode cX8_purse 9 = .ok (.goto 4, 3) := by decide +kernel
theorem dX8_purse_12 : decode cX8_purse 12 = .ok (.iconst 1, 1) := by decide +kernel
theorem dX8_purse_13 : decode cX8_purse 13 = .ok (.putfield 140, 3) := by decide +kernel
theorem dX8_purse_16 : decode cX8_purse 16 = .ok (.aload_n 0, 1) := by decide +kernel
theorem dX8_purse_17 : decode cX8_purse 17 = .ok (.getfield 140, 3) := by decide +kernel
theorem dX8_purse_20 : decode cX8_purse 20 = .ok (.ifCond .le 7, 3) := by decide +kernel
theorem dX8_purse_23 : decode cX8_purse 23 = .ok (.iconst 0, 1) := by decide +kernel
theorem dX8_purse_24 : decode cX8_purse 24 = .ok (.goto 9, 3) := by decide +kernel
theorem dX8_purse_27 : decode cX8_purse 27 = .ok (.aload_n 0, 1) := by decide +kernel
theorem dX8_purse_28 : decode cX8_purse 28 = .ok (.getfield 137, 3) := by decide +kernel
theorem dX8_purse_31 : decode cX8_purse 31 = .ok (.iload_n 1, 1) := by decide +kernel
theorem dX8_purse_32 : decode cX8_purse 32 = .ok (.iaload, 1) := by decide +kernel
theorem dX8_purse_33 : decode cX8_purse 33 = .ok (.ireturn, 1) := by decide +kernel
theorem dX8_house_0 : decode cX8_house 0 = .ok (.aload_n 0, 1) := by decide +kernel
theorem dX8_house_1 : decode cX8_house 1 = .ok (.iconst 0, 1) := by decide +kernel
theorem dX8_house_2 : decode cX8_house 2 = .ok (.putfield 140, 3) := by decide +kernel
theorem dX8_house_5 : decode cX8_house 5 = .ok (.aload_n 0, 1) := by decide +kernel
theorem dX8_house_6 : decode cX8_house 6 = .ok (.getfield 248, 3) := by decide +kernel
theorem dX8_house_9 : decode cX8_house 9 = .ok (.ireturn, 1) := by decide +kernel
