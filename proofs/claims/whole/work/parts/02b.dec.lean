/-! decode rows (the claim's printed text) -/
theorem dX12_init_0 : decode cX12_init 0 = .ok (.aload_n 0, 1) := by decide +kernel
theorem dX12_init_1 : decode cX12_init 1 = .ok (.invokespecial 1, 3) := by decide +kernel
theorem dX12_init_4 : decode cX12_init 4 = .ok (.aload_n 0, 1) := by decide +kernel
theorem dX12_init_5 : decode cX12_init 5 = .ok (.sipush 600, 3) := by decide +kernel
theorem dX12_init_8 : decode cX12_init 8 = .ok (.newarray .int, 2) := by decide +kernel
theorem dX12_init_10 : decode cX12_init 10 = .ok (.putfield 7, 3) := by decide +kernel
theorem dX12_init_13 : decode cX12_init 13 = .ok (.aload_n 0, 1) := by decide +kernel
theorem dX12_init_14 : decode cX12_init 14 = .ok (.sipush 400, 3) := by decide +kernel
theorem dX12_init_17 : decode cX12_init 17 = .ok (.newarray .long, 2) := by decide +kernel
theorem dX12_init_19 : decode cX12_init 19 = .ok (.putfield 13, 3) := by decide +kernel
theorem dX12_init_22 : decode cX12_init 22 = .ok (.aload_n 0, 1) := by decide +kernel
theorem dX12_init_23 : decode cX12_init 23 = .ok (.sipush 400, 3) := by decide +kernel
theorem dX12_init_26 : decode cX12_init 26 = .ok (.newarray .int, 2) := by decide +kernel
theorem dX12_init_28 : decode cX12_init 28 = .ok (.putfield 17, 3) := by decide +kernel
theorem dX12_init_31 : decode cX12_init 31 = .ok (.aload_n 0, 1) := by decide +kernel
theorem dX12_init_32 : decode cX12_init 32 = .ok (.sipush 400, 3) := by decide +kernel
theorem dX12_init_35 : decode cX12_init 35 = .ok (.newarray .int, 2) := by decide +kernel
theorem dX12_init_37 : decode cX12_init 37 = .ok (.putfield 20, 3) := by decide +kernel
theorem dX12_init_40 : decode cX12_init 40 = .ok (.aload_n 0, 1) := by decide +kernel
theorem dX12_init_41 : decode cX12_init 41 = .ok (.sipush 400, 3) := by decide +kernel
theorem dX12_init_44 : decode cX12_init 44 = .ok (.newarray .boolean, 2) := by decide +kernel
theorem dX12_init_46 : decode cX12_init 46 = .ok (.putfield 23, 3) := by decide +kernel
theorem dX12_init_49 : decode cX12_init 49 = .ok (.aload_n 0, 1) := by decide +kernel
theorem dX12_init_50 : decode cX12_init 50 = .ok (.sipush 800, 3) := by decide +kernel
theorem dX12_init_53 : decode cX12_init 53 = .ok (.newarray .int, 2) := by decide +kernel
theorem dX12_init_55 : decode cX12_init 55 = .ok (.putfield 27, 3) := by decide +kernel
theorem dX12_init_58 : decode cX12_init 58 = .ok (.aload_n 0, 1) := by decide +kernel
theorem dX12_init_59 : decode cX12_init 59 = .ok (.ldc 30, 2) := by decide +kernel
theorem dX12_init_61 : decode cX12_init 61 = .ok (.newarray .int, 2) := by decide +kernel
theorem dX12_init_63 : decode cX12_init 63 = .ok (.putfield 31, 3) := by decide +kernel
theorem dX12_init_66 : decode cX12_init 66 = .ok (.aload_n 0, 1) := by decide +kernel
theorem dX12_init_67 : decode cX12_init 67 = .ok (.ldc 30, 2) := by decide +kernel
theorem dX12_init_69 : decode cX12_init 69 = .ok (.newarray .int, 2) := by decide +kernel
theorem dX12_init_71 : decode cX12_init 71 = .ok (.putfield 34, 3) := by decide +kernel
theorem dX12_init_74 : decode cX12_init 74 = .ok (.aload_n 0, 1) := by decide +kernel
theorem dX12_init_75 : decode cX12_init 75 = .ok (.ldc 30, 2) := by decide +kernel
theorem dX12_init_77 : decode cX12_init 77 = .ok (.newarray .int, 2) := by decide +kernel
theorem dX12_init_79 : decode cX12_init 79 = .ok (.putfield 37, 3) := by decide +kernel
theorem dX12_init_82 : decode cX12_init 82 = .ok (.aload_n 0, 1) := by decide +kernel
theorem dX12_init_83 : decode cX12_init 83 = .ok (.ldc 40, 2) := by decide +kernel
theorem dX12_init_85 : decode cX12_init 85 = .ok (.newarray .int, 2) := by decide +kernel
theorem dX12_init_87 : decode cX12_init 87 = .ok (.putfield 41, 3) := by decide +kernel
theorem dX12_init_90 : decode cX12_init 90 = .ok (.aload_n 0, 1) := by decide +kernel
theorem dX12_init_91 : decode cX12_init 91 = .ok (.sipush 400, 3) := by decide +kernel
theorem dX12_init_94 : decode cX12_init 94 = .ok (.newarray .int, 2) := by decide +kernel
theorem dX12_init_96 : decode cX12_init 96 = .ok (.putfield 44, 3) := by decide +kernel
theorem dX12_init_99 : decode cX12_init 99 = .ok (.aload_n 0, 1) := by decide +kernel
theorem dX12_init_100 : decode cX12_init 100 = .ok (.sipush 420, 3) := by decide +kernel
theorem dX12_init_103 : decode cX12_init 103 = .ok (.newarray .int, 2) := by decide +kernel
theorem dX12_init_105 : decode cX12_init 105 = .ok (.putfield 47, 3) := by decide +kernel
theorem dX12_init_108 : decode cX12_init 108 = .ok (.aload_n 0, 1) := by decide +kernel
theorem dX12_init_109 : decode cX12_init 109 = .ok (.sipush 420, 3) := by decide +kernel
theorem dX12_init_112 : decode cX12_init 112 = .ok (.newarray .int, 2) := by decide +kernel
theorem dX12_init_114 : decode cX12_init 114 = .ok (.putfield 50, 3) := by decide +kernel
theorem dX12_init_117 : decode cX12_init 117 = .ok (.aload_n 0, 1) := by decide +kernel
theorem dX12_init_118 : decode cX12_init 118 = .ok (.ldc 53, 2) := by decide +kernel
theorem dX12_init_120 : decode cX12_init 120 = .ok (.newarray .int, 2) := by decide +kernel
theorem dX12_init_122 : decode cX12_init 122 = .ok (.putfield 54, 3) := by decide +kernel
theorem dX12_init_125 : decode cX12_init 125 = .ok (.aload_n 0, 1) := by decide +kernel
theorem dX12_init_126 : decode cX12_init 126 = .ok (.iconst 4, 1) := by decide +kernel
theorem dX12_init_127 : decode cX12_init 127 = .ok (.newarray .boolean, 2) := by decide +kernel
theorem dX12_init_129 : decode cX12_init 129 = .ok (.putfield 57, 3) := by decide +kernel
theorem dX12_init_132 : decode cX12_init 132 = .ok (.aload_n 0, 1) := by decide +kernel
theorem dX12_init_133 : decode cX12_init 133 = .ok (.iconst 4, 1) := by decide +kernel
theorem dX12_init_134 : decode cX12_init 134 = .ok (.newarray .int, 2) := by decide +kernel
theorem dX12_init_136 : decode cX12_init 136 = .ok (.putfield 60, 3) := by decide +kernel
theorem dX12_init_139 : decode cX12_init 139 = .ok (.aload_n 0, 1) := by decide +kernel
theorem dX12_init_140 : decode cX12_init 140 = .ok (.iconst 4, 1) := by decide +kernel
theorem dX12_init_141 : decode cX12_init 141 = .ok (.newarray .int, 2) := by decide +kernel
theorem dX12_init_143 : decode cX12_init 143 = .ok (.putfield 63, 3) := by decide +kernel
theorem dX12_init_146 : decode cX12_init 146 = .ok (.aload_n 0, 1) := by decide +kernel
theorem dX12_init_147 : decode cX12_init 147 = .ok (.sipush 1600, 3) := by decide +kernel
theorem dX12_init_150 : decode cX12_init 150 = .ok (.newarray .int, 2) := by decide +kernel
theorem dX12_init_152 : decode cX12_init 152 = .ok (.putfield 66, 3) := by decide +kernel
theorem dX12_init_155 : decode cX12_init 155 = .ok (.aload_n 0, 1) := by decide +kernel
theorem dX12_init_156 : decode cX12_init 156 = .ok (.sipush 1600, 3) := by decide +kernel
theorem dX12_init_159 : decode cX12_init 159 = .ok (.newarray .boolean, 2) := by decide +kernel
theorem dX12_init_161 : decode cX12_init 161 = .ok (.putfield 69, 3) := by decide +kernel
theorem dX12_init_164 : decode cX12_init 164 = .ok (.aload_n 0, 1) := by decide +kernel
theorem dX12_init_165 : decode cX12_init 165 = .ok (.iconst (-1), 1) := by decide +kernel
theorem dX12_init_166 : decode cX12_init 166 = .ok (.putfield 72, 3) := by decide +kernel
theorem dX12_init_169 : decode cX12_init 169 = .ok (.aload_n 0, 1) := by decide +kernel
theorem dX12_init_170 : decode cX12_init 170 = .ok (.sipush 400, 3) := by decide +kernel
theorem dX12_init_173 : decode cX12_init 173 = .ok (.newarray .int, 2) := by decide +kernel
theorem dX12_init_175 : decode cX12_init 175 = .ok (.putfield 76, 3) := by decide +kernel
theorem dX12_init_178 : decode cX12_init 178 = .ok (.aload_n 0, 1) := by decide +kernel
theorem dX12_init_179 : decode cX12_init 179 = .ok (.sipush 400, 3) := by decide +kernel
theorem dX12_init_182 : decode cX12_init 182 = .ok (.newarray .int, 2) := by decide +kernel
theorem dX12_init_184 : decode cX12_init 184 = .ok (.putfield 79, 3) := by decide +kernel
theorem dX12_init_187 : decode cX12_init 187 = .ok (.aload_n 0, 1) := by decide +kernel
theorem dX12_init_188 : decode cX12_init 188 = .ok (.sipush 400, 3) := by decide +kernel
theorem dX12_init_191 : decode cX12_init 191 = .ok (.newarray .int, 2) := by decide +kernel
theorem dX12_init_193 : decode cX12_init 193 = .ok (.putfield 82, 3) := by decide +kernel
theorem dX12_init_196 : decode cX12_init 196 = .ok (.aload_n 0, 1) := by decide +kernel
theorem dX12_init_197 : decode cX12_init 197 = .ok (.sipush 400, 3) := by decide +kernel
theorem dX12_init_200 : decode cX12_init 200 = .ok (.newarray .int, 2) := by decide +kernel
theorem dX12_init_202 : decode cX12_init 202 = .ok (.putfield 85, 3) := by decide +kernel
theorem dX12_init_205 : decode cX12_init 205 = .ok (.aload_n 0, 1) := by decide +kernel
theorem dX12_init_206 : decode cX12_init 206 = .ok (.sipush 400, 3) := by decide +kernel
theorem dX12_init_209 : decode cX12_init 209 = .ok (.newarray .int, 2) := by decide +kernel
theorem dX12_init_211 : decode cX12_init 211 = .ok (.putfield 88, 3) := by decide +kernel
theorem dX12_init_214 : decode cX12_init 214 = .ok (.aload_n 0, 1) := by decide +kernel
theorem dX12_init_215 : decode cX12_init 215 = .ok (.sipush 4800, 3) := by decide +kernel
theorem dX12_init_218 : decode cX12_init 218 = .ok (.newarray .int, 2) := by decide +kernel
theorem dX12_init_220 : decode cX12_init 220 = .ok (.putfield 91, 3) := by decide +kernel
theorem dX12_init_223 : decode cX12_init 223 = .ok (.aload_n 0, 1) := by decide +kernel
theorem dX12_init_224 : decode cX12_init 224 = .ok (.iconst (-1), 1) := by decide +kernel
theorem dX12_init_225 : decode cX12_init 225 = .ok (.putfield 94, 3) := by decide +kernel
theorem dX12_init_228 : decode cX12_init 228 = .ok (.aload_n 0, 1) := by decide +kernel
theorem dX12_init_229 : decode cX12_init 229 = .ok (.bipush 12, 2) := by decide +kernel
theorem dX12_init_231 : decode cX12_init 231 = .ok (.newarray .int, 2) := by decide +kernel
theorem dX12_init_233 : decode cX12_init 233 = .ok (.putfield 97, 3) := by decide +kernel
theorem dX12_init_236 : decode cX12_init 236 = .ok (.aload_n 0, 1) := by decide +kernel
theorem dX12_init_237 : decode cX12_init 237 = .ok (.bipush 12, 2) := by decide +kernel
theorem dX12_init_239 : decode cX12_init 239 = .ok (.newarray .int, 2) := by decide +kernel
theorem dX12_init_241 : decode cX12_init 241 = .ok (.putfield 100, 3) := by decide +kernel
theorem dX12_init_244 : decode cX12_init 244 = .ok (.aload_n 0, 1) := by decide +kernel
theorem dX12_init_245 : decode cX12_init 245 = .ok (.sipush 400, 3) := by decide +kernel
theorem dX12_init_248 : decode cX12_init 248 = .ok (.newarray .int, 2) := by decide +kernel
theorem dX12_init_250 : decode cX12_init 250 = .ok (.putfield 103, 3) := by decide +kernel
theorem dX12_init_253 : decode cX12_init 253 = .ok (.aload_n 0, 1) := by decide +kernel
theorem dX12_init_254 : decode cX12_init 254 = .ok (.sipush 400, 3) := by decide +kernel
theorem dX12_init_257 : decode cX12_init 257 = .ok (.newarray .int, 2) := by decide +kernel
theorem dX12_init_259 : decode cX12_init 259 = .ok (.putfield 106, 3) := by decide +kernel
theorem dX12_init_262 : decode cX12_init 262 = .ok (.aload_n 0, 1) := by decide +kernel
theorem dX12_init_263 : decode cX12_init 263 = .ok (.sipush 400, 3) := by decide +kernel
theorem dX12_init_266 : decode cX12_init 266 = .ok (.newarray .int, 2) := by decide +kernel
theorem dX12_init_268 : decode cX12_init 268 = .ok (.putfield 109, 3) := by decide +kernel
theorem dX12_init_271 : decode cX12_init 271 = .ok (.aload_n 0, 1) := by decide +kernel
theorem dX12_init_272 : decode cX12_init 272 = .ok (.sipush 400, 3) := by decide +kernel
theorem dX12_init_275 : decode cX12_init 275 = .ok (.newarray .int, 2) := by decide +kernel
theorem dX12_init_277 : decode cX12_init 277 = .ok (.putfield 112, 3) := by decide +kernel
theorem dX12_init_280 : decode cX12_init 280 = .ok (.aload_n 0, 1) := by decide +kernel
theorem dX12_init_281 : decode cX12_init 281 = .ok (.sipush 400, 3) := by decide +kernel
theorem dX12_init_284 : decode cX12_init 284 = .ok (.newarray .int, 2) := by decide +kernel
theorem dX12_init_286 : decode cX12_init 286 = .ok (.putfield 115, 3) := by decide +kernel
theorem dX12_init_289 : decode cX12_init 289 = .ok (.aload_n 0, 1) := by decide +kernel
theorem dX12_init_290 : decode cX12_init 290 = .ok (.sipush 400, 3) := by decide +kernel
theorem dX12_init_293 : decode cX12_init 293 = .ok (.newarray .int, 2) := by decide +kernel
theorem dX12_init_295 : decode cX12_init 295 = .ok (.putfield 118, 3) := by decide +kernel
theorem dX12_init_298 : decode cX12_init 298 = .ok (.aload_n 0, 1) := by decide +kernel
theorem dX12_init_299 : decode cX12_init 299 = .ok (.sipush 4800, 3) := by decide +kernel
theorem dX12_init_302 : decode cX12_init 302 = .ok (.newarray .int, 2) := by decide +kernel
theorem dX12_init_304 : decode cX12_init 304 = .ok (.putfield 121, 3) := by decide +kernel
theorem dX12_init_307 : decode cX12_init 307 = .ok (.aload_n 0, 1) := by decide +kernel
theorem dX12_init_308 : decode cX12_init 308 = .ok (.sipush 400, 3) := by decide +kernel
theorem dX12_init_311 : decode cX12_init 311 = .ok (.newarray .int, 2) := by decide +kernel
theorem dX12_init_313 : decode cX12_init 313 = .ok (.putfield 124, 3) := by decide +kernel
theorem dX12_init_316 : decode cX12_init 316 = .ok (.aload_n 0, 1) := by decide +kernel
theorem dX12_init_317 : decode cX12_init 317 = .ok (.bipush 10, 2) := by decide +kernel
theorem dX12_init_319 : decode cX12_init 319 = .ok (.newarray .int, 2) := by decide +kernel
theorem dX12_init_321 : decode cX12_init 321 = .ok (.putfield 127, 3) := by decide +kernel
theorem dX12_init_324 : decode cX12_init 324 = .ok (.aload_n 0, 1) := by decide +kernel
theorem dX12_init_325 : decode cX12_init 325 = .ok (.bipush 10, 2) := by decide +kernel
theorem dX12_init_327 : decode cX12_init 327 = .ok (.newarray .int, 2) := by decide +kernel
theorem dX12_init_329 : decode cX12_init 329 = .ok (.putfield 130, 3) := by decide +kernel
theorem dX12_init_332 : decode cX12_init 332 = .ok (.aload_n 0, 1) := by decide +kernel
theorem dX12_init_333 : decode cX12_init 333 = .ok (.bipush 10, 2) := by decide +kernel
theorem dX12_init_335 : decode cX12_init 335 = .ok (.newarray .boolean, 2) := by decide +kernel
theorem dX12_init_337 : decode cX12_init 337 = .ok (.putfield 133, 3) := by decide +kernel
theorem dX12_init_340 : decode cX12_init 340 = .ok (.aload_n 0, 1) := by decide +kernel
theorem dX12_init_341 : decode cX12_init 341 = .ok (.sipush 400, 3) := by decide +kernel
theorem dX12_init_344 : decode cX12_init 344 = .ok (.newarray .int, 2) := by decide +kernel
theorem dX12_init_346 : decode cX12_init 346 = .ok (.putfield 136, 3) := by decide +kernel
theorem dX12_init_349 : decode cX12_init 349 = .ok (.aload_n 0, 1) := by decide +kernel
theorem dX12_init_350 : decode cX12_init 350 = .ok (.sipush 400, 3) := by decide +kernel
theorem dX12_init_353 : decode cX12_init 353 = .ok (.newarray .int, 2) := by decide +kernel
theorem dX12_init_355 : decode cX12_init 355 = .ok (.putfield 139, 3) := by decide +kernel
theorem dX12_init_358 : decode cX12_init 358 = .ok (.aload_n 0, 1) := by decide +kernel
theorem dX12_init_359 : decode cX12_init 359 = .ok (.sipush 400, 3) := by decide +kernel
theorem dX12_init_362 : decode cX12_init 362 = .ok (.newarray .int, 2) := by decide +kernel
theorem dX12_init_364 : decode cX12_init 364 = .ok (.putfield 142, 3) := by decide +kernel
theorem dX12_init_367 : decode cX12_init 367 = .ok (.aload_n 0, 1) := by decide +kernel
theorem dX12_init_368 : decode cX12_init 368 = .ok (.sipush 420, 3) := by decide +kernel
theorem dX12_init_371 : decode cX12_init 371 = .ok (.newarray .boolean, 2) := by decide +kernel
theorem dX12_init_373 : decode cX12_init 373 = .ok (.putfield 145, 3) := by decide +kernel
theorem dX12_init_376 : decode cX12_init 376 = .ok (.aload_n 0, 1) := by decide +kernel
theorem dX12_init_377 : decode cX12_init 377 = .ok (.sipush 420, 3) := by decide +kernel
theorem dX12_init_380 : decode cX12_init 380 = .ok (.newarray .int, 2) := by decide +kernel
theorem dX12_init_382 : decode cX12_init 382 = .ok (.putfield 148, 3) := by decide +kernel
theorem dX12_init_385 : decode cX12_init 385 = .ok (.aload_n 0, 1) := by decide +kernel
theorem dX12_init_386 : decode cX12_init 386 = .ok (.bipush 14, 2) := by decide +kernel
theorem dX12_init_388 : decode cX12_init 388 = .ok (.newarray .int, 2) := by decide +kernel
theorem dX12_init_390 : decode cX12_init 390 = .ok (.putfield 151, 3) := by decide +kernel
theorem dX12_init_393 : decode cX12_init 393 = .ok (.aload_n 0, 1) := by decide +kernel
theorem dX12_init_394 : decode cX12_init 394 = .ok (.bipush 14, 2) := by decide +kernel
theorem dX12_init_396 : decode cX12_init 396 = .ok (.newarray .int, 2) := by decide +kernel
theorem dX12_init_398 : decode cX12_init 398 = .ok (.putfield 154, 3) := by decide +kernel
theorem dX12_init_401 : decode cX12_init 401 = .ok (.aload_n 0, 1) := by decide +kernel
theorem dX12_init_402 : decode cX12_init 402 = .ok (.iload_n 1, 1) := by decide +kernel
theorem dX12_init_403 : decode cX12_init 403 = .ok (.iconst 1, 1) := by decide +kernel
theorem dX12_init_404 : decode cX12_init 404 = .ok (.iand, 1) := by decide +kernel
theorem dX12_init_405 : decode cX12_init 405 = .ok (.ifCond .le 7, 3) := by decide +kernel
theorem dX12_init_408 : decode cX12_init 408 = .ok (.iconst 1, 1) := by decide +kernel
theorem dX12_init_409 : decode cX12_init 409 = .ok (.goto 4, 3) := by decide +kernel
theorem dX12_init_412 : decode cX12_init 412 = .ok (.iconst 0, 1) := by decide +kernel
theorem dX12_init_413 : decode cX12_init 413 = .ok (.putfield 157, 3) := by decide +kernel
theorem dX12_init_416 : decode cX12_init 416 = .ok (.aload_n 0, 1) := by decide +kernel
theorem dX12_init_417 : decode cX12_init 417 = .ok (.iload_n 1, 1) := by decide +kernel
theorem dX12_init_418 : decode cX12_init 418 = .ok (.iconst 2, 1) := by decide +kernel
theorem dX12_init_419 : decode cX12_init 419 = .ok (.iand, 1) := by decide +kernel
theorem dX12_init_420 : decode cX12_init 420 = .ok (.ifCond .le 7, 3) := by decide +kernel
theorem dX12_init_423 : decode cX12_init 423 = .ok (.iconst 1, 1) := by decide +kernel
theorem dX12_init_424 : decode cX12_init 424 = .ok (.goto 4, 3) := by decide +kernel
theorem dX12_init_427 : decode cX12_init 427 = .ok (.iconst 0, 1) := by decide +kernel
theorem dX12_init_428 : decode cX12_init 428 = .ok (.putfield 161, 3) := by decide +kernel
theorem dX12_init_431 : decode cX12_init 431 = .ok (.return_, 1) := by decide +kernel
theorem dX12_in_0 : decode cX12_in 0 = .ok (.iload_n 0, 1) := by decide +kernel
theorem dX12_in_1 : decode cX12_in 1 = .ok (.iload_n 1, 1) := by decide +kernel
theorem dX12_in_2 : decode cX12_in 2 = .ok (.if_icmp .lt 12, 3) := by decide +kernel
theorem dX12_in_5 : decode cX12_in 5 = .ok (.iload_n 0, 1) := by decide +kernel
theorem dX12_in_6 : decode cX12_in 6 = .ok (.iload_n 2, 1) := by decide +kernel
theorem dX12_in_7 : decode cX12_in 7 = .ok (.if_icmp .gt 7, 3) := by decide +kernel
theorem dX12_in_10 : decode cX12_in 10 = .ok (.iconst 1, 1) := by decide +kernel
theorem dX12_in_11 : decode cX12_in 11 = .ok (.goto 4, 3) := by decide +kernel
theorem dX12_in_14 : decode cX12_in 14 = .ok (.iconst 0, 1) := by decide +kernel
theorem dX12_in_15 : decode cX12_in 15 = .ok (.ireturn, 1) := by decide +kernel
theorem dX12_isLetter_0 : decode cX12_isLetter 0 = .ok (.iload_n 0, 1) := by decide +kernel
theorem dX12_isLetter_1 : decode cX12_isLetter 1 = .ok (.bipush 65, 2) := by decide +kernel
theorem dX12_isLetter_3 : decode cX12_isLetter 3 = .ok (.bipush 90, 2) := by decide +kernel
theorem dX12_isLetter_5 : decode cX12_isLetter 5 = .ok (.invokestatic 164, 3) := by decide +kernel
theorem dX12_isLetter_8 : decode cX12_isLetter 8 = .ok (.ifCond .ne 25, 3) := by decide +kernel
theorem dX12_isLetter_11 : decode cX12_isLetter 11 = .ok (.iload_n 0, 1) := by decide +kernel
theorem dX12_isLetter_12 : decode cX12_isLetter 12 = .ok (.bipush 97, 2) := by decide +kernel
theorem dX12_isLetter_14 : decode cX12_isLetter 14 = .ok (.bipush 122, 2) := by decide +kernel
theorem dX12_isLetter_16 : decode cX12_isLetter 16 = .ok (.invokestatic 164, 3) := by decide +kernel
theorem dX12_isLetter_19 : decode cX12_isLetter 19 = .ok (.ifCond .ne 14, 3) := by decide +kernel
theorem dX12_isLetter_22 : decode cX12_isLetter 22 = .ok (.iload_n 0, 1) := by decide +kernel
theorem dX12_isLetter_23 : decode cX12_isLetter 23 = .ok (.bipush 48, 2) := by decide +kernel
theorem dX12_isLetter_25 : decode cX12_isLetter 25 = .ok (.bipush 57, 2) := by decide +kernel
theorem dX12_isLetter_27 : decode cX12_isLetter 27 = .ok (.invokestatic 164, 3) := by decide +kernel
theorem dX12_isLetter_30 : decode cX12_isLetter 30 = .ok (.ifCond .eq 7, 3) := by decide +kernel
theorem dX12_isLetter_33 : decode cX12_isLetter 33 = .ok (.iconst 1, 1) := by decide +kernel
theorem dX12_isLetter_34 : decode cX12_isLetter 34 = .ok (.goto 4, 3) := by decide +kernel
theorem dX12_isLetter_37 : decode cX12_isLetter 37 = .ok (.iconst 0, 1) := by decide +kernel
theorem dX12_isLetter_38 : decode cX12_isLetter 38 = .ok (.ireturn, 1) := by decide +kernel
theorem dX12_lower_0 : decode cX12_lower 0 = .ok (.iload_n 0, 1) := by decide +kernel
theorem dX12_lower_1 : decode cX12_lower 1 = .ok (.bipush 65, 2) := by decide +kernel
theorem dX12_lower_3 : decode cX12_lower 3 = .ok (.bipush 90, 2) := by decide +kernel
theorem dX12_lower_5 : decode cX12_lower 5 = .ok (.invokestatic 164, 3) := by decide +kernel
theorem dX12_lower_8 : decode cX12_lower 8 = .ok (.ifCond .eq 10, 3) := by decide +kernel
theorem dX12_lower_11 : decode cX12_lower 11 = .ok (.iload_n 0, 1) := by decide +kernel
theorem dX12_lower_12 : decode cX12_lower 12 = .ok (.bipush 32, 2) := by decide +kernel
theorem dX12_lower_14 : decode cX12_lower 14 = .ok (.iadd, 1) := by decide +kernel
theorem dX12_lower_15 : decode cX12_lower 15 = .ok (.goto 4, 3) := by decide +kernel
theorem dX12_lower_18 : decode cX12_lower 18 = .ok (.iload_n 0, 1) := by decide +kernel
theorem dX12_lower_19 : decode cX12_lower 19 = .ok (.ireturn, 1) := by decide +kernel
theorem dX12_feed_0 : decode cX12_feed 0 = .ok (.iload 5, 2) := by decide +kernel
theorem dX12_feed_2 : decode cX12_feed 2 = .ok (.iconst 1, 1) := by decide +kernel
theorem dX12_feed_3 : decode cX12_feed 3 = .ok (.bipush 16, 2) := by decide +kernel
theorem dX12_feed_5 : decode cX12_feed 5 = .ok (.invokestatic 164, 3) := by decide +kernel
theorem dX12_feed_8 : decode cX12_feed 8 = .ok (.ifCond .ne 6, 3) := by decide +kernel
theorem dX12_feed_11 : decode cX12_feed 11 = .ok (.bipush (-2), 2) := by decide +kernel
theorem dX12_feed_13 : decode cX12_feed 13 = .ok (.ireturn, 1) := by decide +kernel
theorem dX12_feed_14 : decode cX12_feed 14 = .ok (.aload_n 0, 1) := by decide +kernel
theorem dX12_feed_15 : decode cX12_feed 15 = .ok (.getfield 168, 3) := by decide +kernel
theorem dX12_feed_18 : decode cX12_feed 18 = .ok (.iload 5, 2) := by decide +kernel
theorem dX12_feed_20 : decode cX12_feed 20 = .ok (.iadd, 1) := by decide +kernel
theorem dX12_feed_21 : decode cX12_feed 21 = .ok (.sipush 600, 3) := by decide +kernel
theorem dX12_feed_24 : decode cX12_feed 24 = .ok (.if_icmp .le 6, 3) := by decide +kernel
theorem dX12_feed_27 : decode cX12_feed 27 = .ok (.bipush (-3), 2) := by decide +kernel
theorem dX12_feed_29 : decode cX12_feed 29 = .ok (.ireturn, 1) := by decide +kernel
theorem dX12_feed_30 : decode cX12_feed 30 = .ok (.iconst 0, 1) := by decide +kernel
theorem dX12_feed_31 : decode cX12_feed 31 = .ok (.istore 6, 2) := by decide +kernel
theorem dX12_feed_33 : decode cX12_feed 33 = .ok (.iload 6, 2) := by decide +kernel
theorem dX12_feed_35 : decode cX12_feed 35 = .ok (.iload 5, 2) := by decide +kernel
theorem dX12_feed_37 : decode cX12_feed 37 = .ok (.if_icmp .ge 63, 3) := by decide +kernel
theorem dX12_feed_40 : decode cX12_feed 40 = .ok (.aload_n 0, 1) := by decide +kernel
theorem dX12_feed_41 : decode cX12_feed 41 = .ok (.getfield 7, 3) := by decide +kernel
theorem dX12_feed_44 : decode cX12_feed 44 = .ok (.aload_n 0, 1) := by decide +kernel
theorem dX12_feed_45 : decode cX12_feed 45 = .ok (.getfield 168, 3) := by decide +kernel
theorem dX12_feed_48 : decode cX12_feed 48 = .ok (.iload 6, 2) := by decide +kernel
theorem dX12_feed_50 : decode cX12_feed 50 = .ok (.bipush 8, 2) := by decide +kernel
theorem dX12_feed_52 : decode cX12_feed 52 = .ok (.if_icmp .ge 16, 3) := by decide +kernel
theorem dX12_feed_55 : decode cX12_feed 55 = .ok (.lload_n 1, 1) := by decide +kernel
theorem dX12_feed_56 : decode cX12_feed 56 = .ok (.bipush 56, 2) := by decide +kernel
theorem dX12_feed_58 : decode cX12_feed 58 = .ok (.bipush 8, 2) := by decide +kernel
theorem dX12_feed_60 : decode cX12_feed 60 = .ok (.iload 6, 2) := by decide +kernel
theorem dX12_feed_62 : decode cX12_feed 62 = .ok (.imul, 1) := by decide +kernel
theorem dX12_feed_63 : decode cX12_feed 63 = .ok (.isub, 1) := by decide +kernel
theorem dX12_feed_64 : decode cX12_feed 64 = .ok (.lshr, 1) := by decide +kernel
theorem dX12_feed_65 : decode cX12_feed 65 = .ok (.goto 13, 3) := by decide +kernel
theorem dX12_feed_68 : decode cX12_feed 68 = .ok (.lload_n 3, 1) := by decide +kernel
theorem dX12_feed_69 : decode cX12_feed 69 = .ok (.bipush 120, 2) := by decide +kernel
theorem dX12_feed_71 : decode cX12_feed 71 = .ok (.bipush 8, 2) := by decide +kernel
theorem dX12_feed_73 : decode cX12_feed 73 = .ok (.iload 6, 2) := by decide +kernel
theorem dX12_feed_75 : decode cX12_feed 75 = .ok (.imul, 1) := by decide +kernel
theorem dX12_feed_76 : decode cX12_feed 76 = .ok (.isub, 1) := by decide +kernel
theorem dX12_feed_77 : decode cX12_feed 77 = .ok (.lshr, 1) := by decide +kernel
theorem dX12_feed_78 : decode cX12_feed 78 = .ok (.l2i, 1) := by decide +kernel
theorem dX12_feed_79 : decode cX12_feed 79 = .ok (.sipush 255, 3) := by decide +kernel
theorem dX12_feed_82 : decode cX12_feed 82 = .ok (.iand, 1) := by decide +kernel
theorem dX12_feed_83 : decode cX12_feed 83 = .ok (.iastore, 1) := by decide +kernel
theorem dX12_feed_84 : decode cX12_feed 84 = .ok (.aload_n 0, 1) := by decide +kernel
theorem dX12_feed_85 : decode cX12_feed 85 = .ok (.dup, 1) := by decide +kernel
theorem dX12_feed_86 : decode cX12_feed 86 = .ok (.getfield 168, 3) := by decide +kernel
theorem dX12_feed_89 : decode cX12_feed 89 = .ok (.iconst 1, 1) := by decide +kernel
theorem dX12_feed_90 : decode cX12_feed 90 = .ok (.iadd, 1) := by decide +kernel
theorem dX12_feed_91 : decode cX12_feed 91 = .ok (.putfield 168, 3) := by decide +kernel
theorem dX12_feed_94 : decode cX12_feed 94 = .ok (.iinc 6 1, 3) := by decide +kernel
theorem dX12_feed_97 : decode cX12_feed 97 = .ok (.goto (-64), 3) := by decide +kernel
theorem dX12_feed_100 : decode cX12_feed 100 = .ok (.aload_n 0, 1) := by decide +kernel
theorem dX12_feed_101 : decode cX12_feed 101 = .ok (.getfield 168, 3) := by decide +kernel
theorem dX12_feed_104 : decode cX12_feed 104 = .ok (.ireturn, 1) := by decide +kernel
theorem dX12_small_0 : decode cX12_small 0 = .ok (.aload_n 0, 1) := by decide +kernel
theorem dX12_small_1 : decode cX12_small 1 = .ok (.iload_n 2, 1) := by decide +kernel
theorem dX12_small_2 : decode cX12_small 2 = .ok (.bipush 12, 2) := by decide +kernel
theorem dX12_small_4 : decode cX12_small 4 = .ok (.if_icmp .le 8, 3) := by decide +kernel
theorem dX12_small_7 : decode cX12_small 7 = .ok (.bipush 12, 2) := by decide +kernel
theorem dX12_small_9 : decode cX12_small 9 = .ok (.goto 4, 3) := by decide +kernel
theorem dX12_small_12 : decode cX12_small 12 = .ok (.iload_n 2, 1) := by decide +kernel
theorem dX12_small_13 : decode cX12_small 13 = .ok (.putfield 171, 3) := by decide +kernel
theorem dX12_small_16 : decode cX12_small 16 = .ok (.iconst 0, 1) := by decide +kernel
theorem dX12_small_17 : decode cX12_small 17 = .ok (.istore_n 3, 1) := by decide +kernel
theorem dX12_small_18 : decode cX12_small 18 = .ok (.iload_n 3, 1) := by decide +kernel
theorem dX12_small_19 : decode cX12_small 19 = .ok (.aload_n 0, 1) := by decide +kernel
theorem dX12_small_20 : decode cX12_small 20 = .ok (.getfield 171, 3) := by decide +kernel
theorem dX12_small_23 : decode cX12_small 23 = .ok (.if_icmp .ge 26, 3) := by decide +kernel
theorem dX12_small_26 : decode cX12_small 26 = .ok (.aload_n 0, 1) := by decide +kernel
theorem dX12_small_27 : decode cX12_small 27 = .ok (.getfield 100, 3) := by decide +kernel
theorem dX12_small_30 : decode cX12_small 30 = .ok (.iload_n 3, 1) := by decide +kernel
theorem dX12_small_31 : decode cX12_small 31 = .ok (.aload_n 0, 1) := by decide +kernel
theorem dX12_small_32 : decode cX12_small 32 = .ok (.getfield 7, 3) := by decide +kernel
theorem dX12_small_35 : decode cX12_small 35 = .ok (.iload_n 1, 1) := by decide +kernel
theorem dX12_small_36 : decode cX12_small 36 = .ok (.iload_n 3, 1) := by decide +kernel
theorem dX12_small_37 : decode cX12_small 37 = .ok (.iadd, 1) := by decide +kernel
theorem dX12_small_38 : decode cX12_small 38 = .ok (.iaload, 1) := by decide +kernel
theorem dX12_small_39 : decode cX12_small 39 = .ok (.invokestatic 174, 3) := by decide +kernel
theorem dX12_small_42 : decode cX12_small 42 = .ok (.iastore, 1) := by decide +kernel
theorem dX12_small_43 : decode cX12_small 43 = .ok (.iinc 3 1, 3) := by decide +kernel
theorem dX12_small_46 : decode cX12_small 46 = .ok (.goto (-28), 3) := by decide +kernel
theorem dX12_small_49 : decode cX12_small 49 = .ok (.return_, 1) := by decide +kernel
theorem dX12_isTerm_0 : decode cX12_isTerm 0 = .ok (.iload_n 3, 1) := by decide +kernel
theorem dX12_isTerm_1 : decode cX12_isTerm 1 = .ok (.ifCond .le 7, 3) := by decide +kernel
theorem dX12_isTerm_4 : decode cX12_isTerm 4 = .ok (.iconst 3, 1) := by decide +kernel
theorem dX12_isTerm_5 : decode cX12_isTerm 5 = .ok (.goto 12, 3) := by decide +kernel
theorem dX12_isTerm_8 : decode cX12_isTerm 8 = .ok (.iload_n 2, 1) := by decide +kernel
theorem dX12_isTerm_9 : decode cX12_isTerm 9 = .ok (.ifCond .le 7, 3) := by decide +kernel
theorem dX12_isTerm_12 : decode cX12_isTerm 12 = .ok (.iconst 2, 1) := by decide +kernel
theorem dX12_isTerm_13 : decode cX12_isTerm 13 = .ok (.goto 4, 3) := by decide +kernel
theorem dX12_isTerm_16 : decode cX12_isTerm 16 = .ok (.iconst 1, 1) := by decide +kernel
theorem dX12_isTerm_17 : decode cX12_isTerm 17 = .ok (.istore 4, 2) := by decide +kernel
theorem dX12_isTerm_19 : decode cX12_isTerm 19 = .ok (.aload_n 0, 1) := by decide +kernel
theorem dX12_isTerm_20 : decode cX12_isTerm 20 = .ok (.getfield 171, 3) := by decide +kernel
theorem dX12_isTerm_23 : decode cX12_isTerm 23 = .ok (.iload 4, 2) := by decide +kernel
theorem dX12_isTerm_25 : decode cX12_isTerm 25 = .ok (.if_icmp .ne 49, 3) := by decide +kernel
theorem dX12_isTerm_28 : decode cX12_isTerm 28 = .ok (.aload_n 0, 1) := by decide +kernel
theorem dX12_isTerm_29 : decode cX12_isTerm 29 = .ok (.getfield 100, 3) := by decide +kernel
theorem dX12_isTerm_32 : decode cX12_isTerm 32 = .ok (.iconst 0, 1) := by decide +kernel
theorem dX12_isTerm_33 : decode cX12_isTerm 33 = .ok (.iaload, 1) := by decide +kernel
theorem dX12_isTerm_34 : decode cX12_isTerm 34 = .ok (.iload_n 1, 1) := by decide +kernel
theorem dX12_isTerm_35 : decode cX12_isTerm 35 = .ok (.if_icmp .ne 39, 3) := by decide +kernel
theorem dX12_isTerm_38 : decode cX12_isTerm 38 = .ok (.iload 4, 2) := by decide +kernel
theorem dX12_isTerm_40 : decode cX12_isTerm 40 = .ok (.iconst 2, 1) := by decide +kernel
theorem dX12_isTerm_41 : decode cX12_isTerm 41 = .ok (.if_icmp .lt 13, 3) := by decide +kernel
theorem dX12_isTerm_44 : decode cX12_isTerm 44 = .ok (.aload_n 0, 1) := by decide +kernel
theorem dX12_isTerm_45 : decode cX12_isTerm 45 = .ok (.getfield 100, 3) := by decide +kernel
theorem dX12_isTerm_48 : decode cX12_isTerm 48 = .ok (.iconst 1, 1) := by decide +kernel
theorem dX12_isTerm_49 : decode cX12_isTerm 49 = .ok (.iaload, 1) := by decide +kernel
theorem dX12_isTerm_50 : decode cX12_isTerm 50 = .ok (.iload_n 2, 1) := by decide +kernel
theorem dX12_isTerm_51 : decode cX12_isTerm 51 = .ok (.if_icmp .ne 23, 3) := by decide +kernel
theorem dX12_isTerm_54 : decode cX12_isTerm 54 = .ok (.iload 4, 2) := by decide +kernel
theorem dX12_isTerm_56 : decode cX12_isTerm 56 = .ok (.iconst 3, 1) := by decide +kernel
theorem dX12_isTerm_57 : decode cX12_isTerm 57 = .ok (.if_icmp .lt 13, 3) := by decide +kernel
theorem dX12_isTerm_60 : decode cX12_isTerm 60 = .ok (.aload_n 0, 1) := by decide +kernel
theorem dX12_isTerm_61 : decode cX12_isTerm 61 = .ok (.getfield 100, 3) := by decide +kernel
theorem dX12_isTerm_64 : decode cX12_isTerm 64 = .ok (.iconst 2, 1) := by decide +kernel
theorem dX12_isTerm_65 : decode cX12_isTerm 65 = .ok (.iaload, 1) := by decide +kernel
theorem dX12_isTerm_66 : decode cX12_isTerm 66 = .ok (.iload_n 3, 1) := by decide +kernel
theorem dX12_isTerm_67 : decode cX12_isTerm 67 = .ok (.if_icmp .ne 7, 3) := by decide +kernel
theorem dX12_isTerm_70 : decode cX12_isTerm 70 = .ok (.iconst 1, 1) := by decide +kernel
theorem dX12_isTerm_71 : decode cX12_isTerm 71 = .ok (.goto 4, 3) := by decide +kernel
theorem dX12_isTerm_74 : decode cX12_isTerm 74 = .ok (.iconst 0, 1) := by decide +kernel
theorem dX12_isTerm_75 : decode cX12_isTerm 75 = .ok (.ireturn, 1) := by decide +kernel
theorem dX12_makeTerm_0 : decode cX12_makeTerm 0 = .ok (.aload_n 0, 1) := by decide +kernel
theorem dX12_makeTerm_1 : decode cX12_makeTerm 1 = .ok (.iload_n 1, 1) := by decide +kernel
theorem dX12_makeTerm_2 : decode cX12_makeTerm 2 = .ok (.iload_n 2, 1) := by decide +kernel
theorem dX12_makeTerm_3 : decode cX12_makeTerm 3 = .ok (.invokevirtual 178, 3) := by decide +kernel
theorem dX12_makeTerm_6 : decode cX12_makeTerm 6 = .ok (.aload_n 0, 1) := by decide +kernel
theorem dX12_makeTerm_7 : decode cX12_makeTerm 7 = .ok (.getfield 157, 3) := by decide +kernel
theorem dX12_makeTerm_10 : decode cX12_makeTerm 10 = .ok (.ifCond .eq 53, 3) := by decide +kernel
theorem dX12_makeTerm_13 : decode cX12_makeTerm 13 = .ok (.aload_n 0, 1) := by decide +kernel
theorem dX12_makeTerm_14 : decode cX12_makeTerm 14 = .ok (.getfield 171, 3) := by decide +kernel
theorem dX12_makeTerm_17 : decode cX12_makeTerm 17 = .ok (.iconst 4, 1) := by decide +kernel
theorem dX12_makeTerm_18 : decode cX12_makeTerm 18 = .ok (.if_icmp .lt 45, 3) := by decide +kernel
theorem dX12_makeTerm_21 : decode cX12_makeTerm 21 = .ok (.aload_n 0, 1) := by decide +kernel
theorem dX12_makeTerm_22 : decode cX12_makeTerm 22 = .ok (.getfield 100, 3) := by decide +kernel
theorem dX12_makeTerm_25 : decode cX12_makeTerm 25 = .ok (.aload_n 0, 1) := by decide +kernel
theorem dX12_makeTerm_26 : decode cX12_makeTerm 26 = .ok (.getfield 171, 3) := by decide +kernel
theorem dX12_makeTerm_29 : decode cX12_makeTerm 29 = .ok (.iconst 1, 1) := by decide +kernel
theorem dX12_makeTerm_30 : decode cX12_makeTerm 30 = .ok (.isub, 1) := by decide +kernel
theorem dX12_makeTerm_31 : decode cX12_makeTerm 31 = .ok (.iaload, 1) := by decide +kernel
theorem dX12_makeTerm_32 : decode cX12_makeTerm 32 = .ok (.bipush 115, 2) := by decide +kernel
theorem dX12_makeTerm_34 : decode cX12_makeTerm 34 = .ok (.if_icmp .ne 29, 3) := by decide +kernel
theorem dX12_makeTerm_37 : decode cX12_makeTerm 37 = .ok (.aload_n 0, 1) := by decide +kernel
theorem dX12_makeTerm_38 : decode cX12_makeTerm 38 = .ok (.getfield 100, 3) := by decide +kernel
theorem dX12_makeTerm_41 : decode cX12_makeTerm 41 = .ok (.aload_n 0, 1) := by decide +kernel
theorem dX12_makeTerm_42 : decode cX12_makeTerm 42 = .ok (.getfield 171, 3) := by decide +kernel
theorem dX12_makeTerm_45 : decode cX12_makeTerm 45 = .ok (.iconst 2, 1) := by decide +kernel
theorem dX12_makeTerm_46 : decode cX12_makeTerm 46 = .ok (.isub, 1) := by decide +kernel
theorem dX12_makeTerm_47 : decode cX12_makeTerm 47 = .ok (.iaload, 1) := by decide +kernel
theorem dX12_makeTerm_48 : decode cX12_makeTerm 48 = .ok (.bipush 115, 2) := by decide +kernel
theorem dX12_makeTerm_50 : decode cX12_makeTerm 50 = .ok (.if_icmp .eq 13, 3) := by decide +kernel
theorem dX12_makeTerm_53 : decode cX12_makeTerm 53 = .ok (.aload_n 0, 1) := by decide +kernel
theorem dX12_makeTerm_54 : decode cX12_makeTerm 54 = .ok (.dup, 1) := by decide +kernel
theorem dX12_makeTerm_55 : decode cX12_makeTerm 55 = .ok (.getfield 171, 3) := by decide +kernel
theorem dX12_makeTerm_58 : decode cX12_makeTerm 58 = .ok (.iconst 1, 1) := by decide +kernel
theorem dX12_makeTerm_59 : decode cX12_makeTerm 59 = .ok (.isub, 1) := by decide +kernel
theorem dX12_makeTerm_60 : decode cX12_makeTerm 60 = .ok (.putfield 171, 3) := by decide +kernel
theorem dX12_makeTerm_63 : decode cX12_makeTerm 63 = .ok (.aload_n 0, 1) := by decide +kernel
theorem dX12_makeTerm_64 : decode cX12_makeTerm 64 = .ok (.getfield 161, 3) := by decide +kernel
theorem dX12_makeTerm_67 : decode cX12_makeTerm 67 = .ok (.ifCond .ne 4, 3) := by decide +kernel
theorem dX12_makeTerm_70 : decode cX12_makeTerm 70 = .ok (.return_, 1) := by decide +kernel
theorem dX12_makeTerm_71 : decode cX12_makeTerm 71 = .ok (.aload_n 0, 1) := by decide +kernel
theorem dX12_makeTerm_72 : decode cX12_makeTerm 72 = .ok (.bipush 97, 2) := by decide +kernel
theorem dX12_makeTerm_74 : decode cX12_makeTerm 74 = .ok (.iconst 0, 1) := by decide +kernel
theorem dX12_makeTerm_75 : decode cX12_makeTerm 75 = .ok (.iconst 0, 1) := by decide +kernel
theorem dX12_makeTerm_76 : decode cX12_makeTerm 76 = .ok (.invokevirtual 182, 3) := by decide +kernel
theorem dX12_makeTerm_79 : decode cX12_makeTerm 79 = .ok (.ifCond .ne 64, 3) := by decide +kernel
theorem dX12_makeTerm_82 : decode cX12_makeTerm 82 = .ok (.aload_n 0, 1) := by decide +kernel
theorem dX12_makeTerm_83 : decode cX12_makeTerm 83 = .ok (.bipush 97, 2) := by decide +kernel
theorem dX12_makeTerm_85 : decode cX12_makeTerm 85 = .ok (.bipush 110, 2) := by decide +kernel
theorem dX12_makeTerm_87 : decode cX12_makeTerm 87 = .ok (.iconst 0, 1) := by decide +kernel
theorem dX12_makeTerm_88 : decode cX12_makeTerm 88 = .ok (.invokevirtual 182, 3) := by decide +kernel
theorem dX12_makeTerm_91 : decode cX12_makeTerm 91 = .ok (.ifCond .ne 52, 3) := by decide +kernel
theorem dX12_makeTerm_94 : decode cX12_makeTerm 94 = .ok (.aload_n 0, 1) := by decide +kernel
theorem dX12_makeTerm_95 : decode cX12_makeTerm 95 = .ok (.bipush 97, 2) := by decide +kernel
theorem dX12_makeTerm_97 : decode cX12_makeTerm 97 = .ok (.bipush 110, 2) := by decide +kernel
theorem dX12_makeTerm_99 : decode cX12_makeTerm 99 = .ok (.bipush 100, 2) := by decide +kernel
theorem dX12_makeTerm_101 : decode cX12_makeTerm 101 = .ok (.invokevirtual 182, 3) := by decide +kernel
theorem dX12_makeTerm_104 : decode cX12_makeTerm 104 = .ok (.ifCond .ne 39, 3) := by decide +kernel
theorem dX12_makeTerm_107 : decode cX12_makeTerm 107 = .ok (.aload_n 0, 1) := by decide +kernel
theorem dX12_makeTerm_108 : decode cX12_makeTerm 108 = .ok (.bipush 105, 2) := by decide +kernel
theorem dX12_makeTerm_110 : decode cX12_makeTerm 110 = .ok (.bipush 110, 2) := by decide +kernel
theorem dX12_makeTerm_112 : decode cX12_makeTerm 112 = .ok (.iconst 0, 1) := by decide +kernel
theorem dX12_makeTerm_113 : decode cX12_makeTerm 113 = .ok (.invokevirtual 182, 3) := by decide +kernel
theorem dX12_makeTerm_116 : decode cX12_makeTerm 116 = .ok (.ifCond .ne 27, 3) := by decide +kernel
theorem dX12_makeTerm_119 : decode cX12_makeTerm 119 = .ok (.aload_n 0, 1) := by decide +kernel
theorem dX12_makeTerm_120 : decode cX12_makeTerm 120 = .ok (.bipush 105, 2) := by decide +kernel
theorem dX12_makeTerm_122 : decode cX12_makeTerm 122 = .ok (.bipush 115, 2) := by decide +kernel
theorem dX12_makeTerm_124 : decode cX12_makeTerm 124 = .ok (.iconst 0, 1) := by decide +kernel
theorem dX12_makeTerm_125 : decode cX12_makeTerm 125 = .ok (.invokevirtual 182, 3) := by decide +kernel
theorem dX12_makeTerm_128 : decode cX12_makeTerm 128 = .ok (.ifCond .ne 15, 3) := by decide +kernel
theorem dX12_makeTerm_131 : decode cX12_makeTerm 131 = .ok (.aload_n 0, 1) := by decide +kernel
theorem dX12_makeTerm_132 : decode cX12_makeTerm 132 = .ok (.bipush 105, 2) := by decide +kernel
theorem dX12_makeTerm_134 : decode cX12_makeTerm 134 = .ok (.bipush 116, 2) := by decide +kernel
theorem dX12_makeTerm_136 : decode cX12_makeTerm 136 = .ok (.iconst 0, 1) := by decide +kernel
theorem dX12_makeTerm_137 : decode cX12_makeTerm 137 = .ok (.invokevirtual 182, 3) := by decide +kernel
theorem dX12_makeTerm_140 : decode cX12_makeTerm 140 = .ok (.ifCond .eq 7, 3) := by decide +kernel
theorem dX12_makeTerm_143 : decode cX12_makeTerm 143 = .ok (.iconst 1, 1) := by decide +kernel
theorem dX12_makeTerm_144 : decode cX12_makeTerm 144 = .ok (.goto 4, 3) := by decide +kernel
theorem dX12_makeTerm_147 : decode cX12_makeTerm 147 = .ok (.iconst 0, 1) := by decide +kernel
theorem dX12_makeTerm_148 : decode cX12_makeTerm 148 = .ok (.istore_n 3, 1) := by decide +kernel
theorem dX12_makeTerm_149 : decode cX12_makeTerm 149 = .ok (.iload_n 3, 1) := by decide +kernel
theorem dX12_makeTerm_150 : decode cX12_makeTerm 150 = .ok (.ifCond .ne 64, 3) := by decide +kernel
theorem dX12_makeTerm_153 : decode cX12_makeTerm 153 = .ok (.aload_n 0, 1) := by decide +kernel
theorem dX12_makeTerm_154 : decode cX12_makeTerm 154 = .ok (.bipush 111, 2) := by decide +kernel
theorem dX12_makeTerm_156 : decode cX12_makeTerm 156 = .ok (.bipush 102, 2) := by decide +kernel
theorem dX12_makeTerm_158 : decode cX12_makeTerm 158 = .ok (.iconst 0, 1) := by decide +kernel
theorem dX12_makeTerm_159 : decode cX12_makeTerm 159 = .ok (.invokevirtual 182, 3) := by decide +kernel
theorem dX12_makeTerm_162 : decode cX12_makeTerm 162 = .ok (.ifCond .ne 52, 3) := by decide +kernel
theorem dX12_makeTerm_165 : decode cX12_makeTerm 165 = .ok (.aload_n 0, 1) := by decide +kernel
theorem dX12_makeTerm_166 : decode cX12_makeTerm 166 = .ok (.bipush 111, 2) := by decide +kernel
theorem dX12_makeTerm_168 : decode cX12_makeTerm 168 = .ok (.bipush 110, 2) := by decide +kernel
theorem dX12_makeTerm_170 : decode cX12_makeTerm 170 = .ok (.iconst 0, 1) := by decide +kernel
theorem dX12_makeTerm_171 : decode cX12_makeTerm 171 = .ok (.invokevirtual 182, 3) := by decide +kernel
theorem dX12_makeTerm_174 : decode cX12_makeTerm 174 = .ok (.ifCond .ne 40, 3) := by decide +kernel
theorem dX12_makeTerm_177 : decode cX12_makeTerm 177 = .ok (.aload_n 0, 1) := by decide +kernel
theorem dX12_makeTerm_178 : decode cX12_makeTerm 178 = .ok (.bipush 111, 2) := by decide +kernel
theorem dX12_makeTerm_180 : decode cX12_makeTerm 180 = .ok (.bipush 114, 2) := by decide +kernel
theorem dX12_makeTerm_182 : decode cX12_makeTerm 182 = .ok (.iconst 0, 1) := by decide +kernel
theorem dX12_makeTerm_183 : decode cX12_makeTerm 183 = .ok (.invokevirtual 182, 3) := by decide +kernel
theorem dX12_makeTerm_186 : decode cX12_makeTerm 186 = .ok (.ifCond .ne 28, 3) := by decide +kernel
theorem dX12_makeTerm_189 : decode cX12_makeTerm 189 = .ok (.aload_n 0, 1) := by decide +kernel
theorem dX12_makeTerm_190 : decode cX12_makeTerm 190 = .ok (.bipush 116, 2) := by decide +kernel
theorem dX12_makeTerm_192 : decode cX12_makeTerm 192 = .ok (.bipush 104, 2) := by decide +kernel
theorem dX12_makeTerm_194 : decode cX12_makeTerm 194 = .ok (.bipush 101, 2) := by decide +kernel
theorem dX12_makeTerm_196 : decode cX12_makeTerm 196 = .ok (.invokevirtual 182, 3) := by decide +kernel
theorem dX12_makeTerm_199 : decode cX12_makeTerm 199 = .ok (.ifCond .ne 15, 3) := by decide +kernel
theorem dX12_makeTerm_202 : decode cX12_makeTerm 202 = .ok (.aload_n 0, 1) := by decide +kernel
theorem dX12_makeTerm_203 : decode cX12_makeTerm 203 = .ok (.bipush 116, 2) := by decide +kernel
theorem dX12_makeTerm_205 : decode cX12_makeTerm 205 = .ok (.bipush 111, 2) := by decide +kernel
theorem dX12_makeTerm_207 : decode cX12_makeTerm 207 = .ok (.iconst 0, 1) := by decide +kernel
theorem dX12_makeTerm_208 : decode cX12_makeTerm 208 = .ok (.invokevirtual 182, 3) := by decide +kernel
theorem dX12_makeTerm_211 : decode cX12_makeTerm 211 = .ok (.ifCond .eq 7, 3) := by decide +kernel
theorem dX12_makeTerm_214 : decode cX12_makeTerm 214 = .ok (.iconst 1, 1) := by decide +kernel
theorem dX12_makeTerm_215 : decode cX12_makeTerm 215 = .ok (.goto 4, 3) := by decide +kernel
theorem dX12_makeTerm_218 : decode cX12_makeTerm 218 = .ok (.iconst 0, 1) := by decide +kernel
theorem dX12_makeTerm_219 : decode cX12_makeTerm 219 = .ok (.istore_n 3, 1) := by decide +kernel
theorem dX12_makeTerm_220 : decode cX12_makeTerm 220 = .ok (.iload_n 3, 1) := by decide +kernel
theorem dX12_makeTerm_221 : decode cX12_makeTerm 221 = .ok (.ifCond .eq 8, 3) := by decide +kernel
theorem dX12_makeTerm_224 : decode cX12_makeTerm 224 = .ok (.aload_n 0, 1) := by decide +kernel
theorem dX12_makeTerm_225 : decode cX12_makeTerm 225 = .ok (.iconst 0, 1) := by decide +kernel
theorem dX12_makeTerm_226 : decode cX12_makeTerm 226 = .ok (.putfield 171, 3) := by decide +kernel
theorem dX12_makeTerm_229 : decode cX12_makeTerm 229 = .ok (.return_, 1) := by decide +kernel
theorem dX12_base_0 : decode cX12_base 0 = .ok (.sipush 250, 3) := by decide +kernel
theorem dX12_base_3 : decode cX12_base 3 = .ok (.iload_n 0, 1) := by decide +kernel
theorem dX12_base_4 : decode cX12_base 4 = .ok (.imul, 1) := by decide +kernel
theorem dX12_base_5 : decode cX12_base 5 = .ok (.bipush 50, 2) := by decide +kernel
theorem dX12_base_7 : decode cX12_base 7 = .ok (.iload_n 1, 1) := by decide +kernel
theorem dX12_base_8 : decode cX12_base 8 = .ok (.imul, 1) := by decide +kernel
theorem dX12_base_9 : decode cX12_base 9 = .ok (.iadd, 1) := by decide +kernel
theorem dX12_base_10 : decode cX12_base 10 = .ok (.ireturn, 1) := by decide +kernel
theorem dX12_tokens_0 : decode cX12_tokens 0 = .ok (.iconst 0, 1) := by decide +kernel
theorem dX12_tokens_1 : decode cX12_tokens 1 = .ok (.istore 5, 2) := by decide +kernel
theorem dX12_tokens_3 : decode cX12_tokens 3 = .ok (.iload_n 3, 1) := by decide +kernel
theorem dX12_tokens_4 : decode cX12_tokens 4 = .ok (.istore 6, 2) := by decide +kernel
theorem dX12_tokens_6 : decode cX12_tokens 6 = .ok (.iload 6, 2) := by decide +kernel
theorem dX12_tokens_8 : decode cX12_tokens 8 = .ok (.iload 4, 2) := by decide +kernel
theorem dX12_tokens_10 : decode cX12_tokens 10 = .ok (.if_icmp .ge 157, 3) := by decide +kernel
theorem dX12_tokens_13 : decode cX12_tokens 13 = .ok (.iload 6, 2) := by decide +kernel
theorem dX12_tokens_15 : decode cX12_tokens 15 = .ok (.istore 7, 2) := by decide +kernel
theorem dX12_tokens_17 : decode cX12_tokens 17 = .ok (.iload 7, 2) := by decide +kernel
theorem dX12_tokens_19 : decode cX12_tokens 19 = .ok (.iload 4, 2) := by decide +kernel
theorem dX12_tokens_21 : decode cX12_tokens 21 = .ok (.if_icmp .ge 22, 3) := by decide +kernel
theorem dX12_tokens_24 : decode cX12_tokens 24 = .ok (.aload_n 0, 1) := by decide +kernel
theorem dX12_tokens_25 : decode cX12_tokens 25 = .ok (.getfield 7, 3) := by decide +kernel
theorem dX12_tokens_28 : decode cX12_tokens 28 = .ok (.iload 7, 2) := by decide +kernel
theorem dX12_tokens_30 : decode cX12_tokens 30 = .ok (.iaload, 1) := by decide +kernel
theorem dX12_tokens_31 : decode cX12_tokens 31 = .ok (.invokestatic 185, 3) := by decide +kernel
theorem dX12_tokens_34 : decode cX12_tokens 34 = .ok (.ifCond .eq 9, 3) := by decide +kernel
theorem dX12_tokens_37 : decode cX12_tokens 37 = .ok (.iinc 7 1, 3) := by decide +kernel
theorem dX12_tokens_40 : decode cX12_tokens 40 = .ok (.goto (-23), 3) := by decide +kernel
theorem dX12_tokens_43 : decode cX12_tokens 43 = .ok (.iload 7, 2) := by decide +kernel
theorem dX12_tokens_45 : decode cX12_tokens 45 = .ok (.iload 6, 2) := by decide +kernel
theorem dX12_tokens_47 : decode cX12_tokens 47 = .ok (.if_icmp .le 99, 3) := by decide +kernel
theorem dX12_tokens_50 : decode cX12_tokens 50 = .ok (.iload_n 1, 1) := by decide +kernel
theorem dX12_tokens_51 : decode cX12_tokens 51 = .ok (.iload_n 2, 1) := by decide +kernel
theorem dX12_tokens_52 : decode cX12_tokens 52 = .ok (.invokestatic 189, 3) := by decide +kernel
theorem dX12_tokens_55 : decode cX12_tokens 55 = .ok (.iload 5, 2) := by decide +kernel
theorem dX12_tokens_57 : decode cX12_tokens 57 = .ok (.iadd, 1) := by decide +kernel
theorem dX12_tokens_58 : decode cX12_tokens 58 = .ok (.istore 8, 2) := by decide +kernel
theorem dX12_tokens_60 : decode cX12_tokens 60 = .ok (.aload_n 0, 1) := by decide +kernel
theorem dX12_tokens_61 : decode cX12_tokens 61 = .ok (.iload 6, 2) := by decide +kernel
theorem dX12_tokens_63 : decode cX12_tokens 63 = .ok (.iload 7, 2) := by decide +kernel
theorem dX12_tokens_65 : decode cX12_tokens 65 = .ok (.iload 6, 2) := by decide +kernel
theorem dX12_tokens_67 : decode cX12_tokens 67 = .ok (.isub, 1) := by decide +kernel
theorem dX12_tokens_68 : decode cX12_tokens 68 = .ok (.invokevirtual 193, 3) := by decide +kernel
theorem dX12_tokens_71 : decode cX12_tokens 71 = .ok (.aload_n 0, 1) := by decide +kernel
theorem dX12_tokens_72 : decode cX12_tokens 72 = .ok (.getfield 31, 3) := by decide +kernel
theorem dX12_tokens_75 : decode cX12_tokens 75 = .ok (.iload 8, 2) := by decide +kernel
theorem dX12_tokens_77 : decode cX12_tokens 77 = .ok (.iload 6, 2) := by decide +kernel
theorem dX12_tokens_79 : decode cX12_tokens 79 = .ok (.iload_n 3, 1) := by decide +kernel
theorem dX12_tokens_80 : decode cX12_tokens 80 = .ok (.isub, 1) := by decide +kernel
theorem dX12_tokens_81 : decode cX12_tokens 81 = .ok (.iastore, 1) := by decide +kernel
theorem dX12_tokens_82 : decode cX12_tokens 82 = .ok (.aload_n 0, 1) := by decide +kernel
theorem dX12_tokens_83 : decode cX12_tokens 83 = .ok (.getfield 34, 3) := by decide +kernel
theorem dX12_tokens_86 : decode cX12_tokens 86 = .ok (.iload 8, 2) := by decide +kernel
theorem dX12_tokens_88 : decode cX12_tokens 88 = .ok (.iload 7, 2) := by decide +kernel
theorem dX12_tokens_90 : decode cX12_tokens 90 = .ok (.iload 6, 2) := by decide +kernel
theorem dX12_tokens_92 : decode cX12_tokens 92 = .ok (.isub, 1) := by decide +kernel
theorem dX12_tokens_93 : decode cX12_tokens 93 = .ok (.iastore, 1) := by decide +kernel
theorem dX12_tokens_94 : decode cX12_tokens 94 = .ok (.aload_n 0, 1) := by decide +kernel
theorem dX12_tokens_95 : decode cX12_tokens 95 = .ok (.getfield 37, 3) := by decide +kernel
theorem dX12_tokens_98 : decode cX12_tokens 98 = .ok (.iload 8, 2) := by decide +kernel
theorem dX12_tokens_100 : decode cX12_tokens 100 = .ok (.aload_n 0, 1) := by decide +kernel
theorem dX12_tokens_101 : decode cX12_tokens 101 = .ok (.getfield 171, 3) := by decide +kernel
theorem dX12_tokens_104 : decode cX12_tokens 104 = .ok (.iastore, 1) := by decide +kernel
theorem dX12_tokens_105 : decode cX12_tokens 105 = .ok (.iconst 0, 1) := by decide +kernel
theorem dX12_tokens_106 : decode cX12_tokens 106 = .ok (.istore 9, 2) := by decide +kernel
theorem dX12_tokens_108 : decode cX12_tokens 108 = .ok (.iload 9, 2) := by decide +kernel
theorem dX12_tokens_110 : decode cX12_tokens 110 = .ok (.aload_n 0, 1) := by decide +kernel
theorem dX12_tokens_111 : decode cX12_tokens 111 = .ok (.getfield 171, 3) := by decide +kernel
theorem dX12_tokens_114 : decode cX12_tokens 114 = .ok (.if_icmp .ge 29, 3) := by decide +kernel
theorem dX12_tokens_117 : decode cX12_tokens 117 = .ok (.aload_n 0, 1) := by decide +kernel
theorem dX12_tokens_118 : decode cX12_tokens 118 = .ok (.getfield 41, 3) := by decide +kernel
theorem dX12_tokens_121 : decode cX12_tokens 121 = .ok (.bipush 12, 2) := by decide +kernel
theorem dX12_tokens_123 : decode cX12_tokens 123 = .ok (.iload 8, 2) := by decide +kernel
theorem dX12_tokens_125 : decode cX12_tokens 125 = .ok (.imul, 1) := by decide +kernel
theorem dX12_tokens_126 : decode cX12_tokens 126 = .ok (.iload 9, 2) := by decide +kernel
theorem dX12_tokens_128 : decode cX12_tokens 128 = .ok (.iadd, 1) := by decide +kernel
theorem dX12_tokens_129 : decode cX12_tokens 129 = .ok (.aload_n 0, 1) := by decide +kernel
theorem dX12_tokens_130 : decode cX12_tokens 130 = .ok (.getfield 100, 3) := by decide +kernel
theorem dX12_tokens_133 : decode cX12_tokens 133 = .ok (.iload 9, 2) := by decide +kernel
theorem dX12_tokens_135 : decode cX12_tokens 135 = .ok (.iaload, 1) := by decide +kernel
theorem dX12_tokens_136 : decode cX12_tokens 136 = .ok (.iastore, 1) := by decide +kernel
theorem dX12_tokens_137 : decode cX12_tokens 137 = .ok (.iinc 9 1, 3) := by decide +kernel
theorem dX12_tokens_140 : decode cX12_tokens 140 = .ok (.goto (-32), 3) := by decide +kernel
theorem dX12_tokens_143 : decode cX12_tokens 143 = .ok (.iinc 5 1, 3) := by decide +kernel
theorem dX12_tokens_146 : decode cX12_tokens 146 = .ok (.iload 7, 2) := by decide +kernel
theorem dX12_tokens_148 : decode cX12_tokens 148 = .ok (.iload 6, 2) := by decide +kernel
theorem dX12_tokens_150 : decode cX12_tokens 150 = .ok (.if_icmp .le 8, 3) := by decide +kernel
theorem dX12_tokens_153 : decode cX12_tokens 153 = .ok (.iload 7, 2) := by decide +kernel
theorem dX12_tokens_155 : decode cX12_tokens 155 = .ok (.goto 7, 3) := by decide +kernel
theorem dX12_tokens_158 : decode cX12_tokens 158 = .ok (.iload 6, 2) := by decide +kernel
theorem dX12_tokens_160 : decode cX12_tokens 160 = .ok (.iconst 1, 1) := by decide +kernel
theorem dX12_tokens_161 : decode cX12_tokens 161 = .ok (.iadd, 1) := by decide +kernel
theorem dX12_tokens_162 : decode cX12_tokens 162 = .ok (.istore 6, 2) := by decide +kernel
theorem dX12_tokens_164 : decode cX12_tokens 164 = .ok (.goto (-158), 3) := by decide +kernel
theorem dX12_tokens_167 : decode cX12_tokens 167 = .ok (.aload_n 0, 1) := by decide +kernel
theorem dX12_tokens_168 : decode cX12_tokens 168 = .ok (.getfield 27, 3) := by decide +kernel
theorem dX12_tokens_171 : decode cX12_tokens 171 = .ok (.iconst 2, 1) := by decide +kernel
theorem dX12_tokens_172 : decode cX12_tokens 172 = .ok (.iload_n 1, 1) := by decide +kernel
theorem dX12_tokens_173 : decode cX12_tokens 173 = .ok (.imul, 1) := by decide +kernel
theorem dX12_tokens_174 : decode cX12_tokens 174 = .ok (.iload_n 2, 1) := by decide +kernel
theorem dX12_tokens_175 : decode cX12_tokens 175 = .ok (.iadd, 1) := by decide +kernel
theorem dX12_tokens_176 : decode cX12_tokens 176 = .ok (.iload 5, 2) := by decide +kernel
theorem dX12_tokens_178 : decode cX12_tokens 178 = .ok (.iastore, 1) := by decide +kernel
theorem dX12_tokens_179 : decode cX12_tokens 179 = .ok (.return_, 1) := by decide +kernel
theorem dX12_find_0 : decode cX12_find 0 = .ok (.iconst (-1), 1) := by decide +kernel
theorem dX12_find_1 : decode cX12_find 1 = .ok (.istore_n 3, 1) := by decide +kernel
theorem dX12_find_2 : decode cX12_find 2 = .ok (.iconst 0, 1) := by decide +kernel
theorem dX12_find_3 : decode cX12_find 3 = .ok (.istore 4, 2) := by decide +kernel
theorem dX12_find_5 : decode cX12_find 5 = .ok (.iload 4, 2) := by decide +kernel
theorem dX12_find_7 : decode cX12_find 7 = .ok (.aload_n 0, 1) := by decide +kernel
theorem dX12_find_8 : decode cX12_find 8 = .ok (.getfield 196, 3) := by decide +kernel
theorem dX12_find_11 : decode cX12_find 11 = .ok (.if_icmp .ge 34, 3) := by decide +kernel
theorem dX12_find_14 : decode cX12_find 14 = .ok (.aload_n 0, 1) := by decide +kernel
theorem dX12_find_15 : decode cX12_find 15 = .ok (.getfield 13, 3) := by decide +kernel
theorem dX12_find_18 : decode cX12_find 18 = .ok (.iload 4, 2) := by decide +kernel
theorem dX12_find_20 : decode cX12_find 20 = .ok (.laload, 1) := by decide +kernel
theorem dX12_find_21 : decode cX12_find 21 = .ok (.lload_n 1, 1) := by decide +kernel
theorem dX12_find_22 : decode cX12_find 22 = .ok (.lcmp, 1) := by decide +kernel
theorem dX12_find_23 : decode cX12_find 23 = .ok (.ifCond .ne 16, 3) := by decide +kernel
theorem dX12_find_26 : decode cX12_find 26 = .ok (.aload_n 0, 1) := by decide +kernel
theorem dX12_find_27 : decode cX12_find 27 = .ok (.getfield 23, 3) := by decide +kernel
theorem dX12_find_30 : decode cX12_find 30 = .ok (.iload 4, 2) := by decide +kernel
theorem dX12_find_32 : decode cX12_find 32 = .ok (.baload, 1) := by decide +kernel
theorem dX12_find_33 : decode cX12_find 33 = .ok (.ifCond .ne 6, 3) := by decide +kernel
theorem dX12_find_36 : decode cX12_find 36 = .ok (.iload 4, 2) := by decide +kernel
theorem dX12_find_38 : decode cX12_find 38 = .ok (.istore_n 3, 1) := by decide +kernel
theorem dX12_find_39 : decode cX12_find 39 = .ok (.iinc 4 1, 3) := by decide +kernel
theorem dX12_find_42 : decode cX12_find 42 = .ok (.goto (-37), 3) := by decide +kernel
theorem dX12_find_45 : decode cX12_find 45 = .ok (.iload_n 3, 1) := by decide +kernel
theorem dX12_find_46 : decode cX12_find 46 = .ok (.ireturn, 1) := by decide +kernel
theorem dX12_add_0 : decode cX12_add 0 = .ok (.aload_n 0, 1) := by decide +kernel
theorem dX12_add_1 : decode cX12_add 1 = .ok (.getfield 168, 3) := by decide +kernel
theorem dX12_add_4 : decode cX12_add 4 = .ok (.istore 5, 2) := by decide +kernel
theorem dX12_add_6 : decode cX12_add 6 = .ok (.aload_n 0, 1) := by decide +kernel
theorem dX12_add_7 : decode cX12_add 7 = .ok (.iconst 0, 1) := by decide +kernel
theorem dX12_add_8 : decode cX12_add 8 = .ok (.putfield 168, 3) := by decide +kernel
theorem dX12_add_11 : decode cX12_add 11 = .ok (.iconst 0, 1) := by decide +kernel
theorem dX12_add_12 : decode cX12_add 12 = .ok (.istore 6, 2) := by decide +kernel
theorem dX12_add_14 : decode cX12_add 14 = .ok (.iload 6, 2) := by decide +kernel
theorem dX12_add_16 : decode cX12_add 16 = .ok (.iload 5, 2) := by decide +kernel
theorem dX12_add_18 : decode cX12_add 18 = .ok (.if_icmp .ge 19, 3) := by decide +kernel
theorem dX12_add_21 : decode cX12_add 21 = .ok (.aload_n 0, 1) := by decide +kernel
theorem dX12_add_22 : decode cX12_add 22 = .ok (.getfield 7, 3) := by decide +kernel
theorem dX12_add_25 : decode cX12_add 25 = .ok (.iload 6, 2) := by decide +kernel
theorem dX12_add_27 : decode cX12_add 27 = .ok (.iaload, 1) := by decide +kernel
theorem dX12_add_28 : decode cX12_add 28 = .ok (.ifCond .eq 9, 3) := by decide +kernel
theorem dX12_add_31 : decode cX12_add 31 = .ok (.iinc 6 1, 3) := by decide +kernel
theorem dX12_add_34 : decode cX12_add 34 = .ok (.goto (-20), 3) := by decide +kernel
theorem dX12_add_37 : decode cX12_add 37 = .ok (.iload 6, 2) := by decide +kernel
theorem dX12_add_39 : decode cX12_add 39 = .ok (.iload 5, 2) := by decide +kernel
theorem dX12_add_41 : decode cX12_add 41 = .ok (.if_icmp .ge 10, 3) := by decide +kernel
theorem dX12_add_44 : decode cX12_add 44 = .ok (.iload 6, 2) := by decide +kernel
theorem dX12_add_46 : decode cX12_add 46 = .ok (.iconst 1, 1) := by decide +kernel
theorem dX12_add_47 : decode cX12_add 47 = .ok (.iadd, 1) := by decide +kernel
theorem dX12_add_48 : decode cX12_add 48 = .ok (.goto 5, 3) := by decide +kernel
theorem dX12_add_51 : decode cX12_add 51 = .ok (.iload 5, 2) := by decide +kernel
theorem dX12_add_53 : decode cX12_add 53 = .ok (.istore 7, 2) := by decide +kernel
theorem dX12_add_55 : decode cX12_add 55 = .ok (.iload 6, 2) := by decide +kernel
theorem dX12_add_57 : decode cX12_add 57 = .ok (.bipush 100, 2) := by decide +kernel
theorem dX12_add_59 : decode cX12_add 59 = .ok (.if_icmp .gt 14, 3) := by decide +kernel
theorem dX12_add_62 : decode cX12_add 62 = .ok (.iload 5, 2) := by decide +kernel
theorem dX12_add_64 : decode cX12_add 64 = .ok (.iload 7, 2) := by decide +kernel
theorem dX12_add_66 : decode cX12_add 66 = .ok (.isub, 1) := by decide +kernel
theorem dX12_add_67 : decode cX12_add 67 = .ok (.sipush 400, 3) := by decide +kernel
theorem dX12_add_70 : decode cX12_add 70 = .ok (.if_icmp .le 6, 3) := by decide +kernel
theorem dX12_add_73 : decode cX12_add 73 = .ok (.bipush (-2), 2) := by decide +kernel
theorem dX12_add_75 : decode cX12_add 75 = .ok (.ireturn, 1) := by decide +kernel
theorem dX12_add_76 : decode cX12_add 76 = .ok (.aload_n 0, 1) := by decide +kernel
theorem dX12_add_77 : decode cX12_add 77 = .ok (.getfield 196, 3) := by decide +kernel
theorem dX12_add_80 : decode cX12_add 80 = .ok (.sipush 400, 3) := by decide +kernel
theorem dX12_add_83 : decode cX12_add 83 = .ok (.if_icmp .ne 6, 3) := by decide +kernel
theorem dX12_add_86 : decode cX12_add 86 = .ok (.bipush (-3), 2) := by decide +kernel
theorem dX12_add_88 : decode cX12_add 88 = .ok (.ireturn, 1) := by decide +kernel
theorem dX12_add_89 : decode cX12_add 89 = .ok (.aload_n 0, 1) := by decide +kernel
theorem dX12_add_90 : decode cX12_add 90 = .ok (.lload_n 1, 1) := by decide +kernel
theorem dX12_add_91 : decode cX12_add 91 = .ok (.invokevirtual 199, 3) := by decide +kernel
theorem dX12_add_94 : decode cX12_add 94 = .ok (.istore 8, 2) := by decide +kernel
theorem dX12_add_96 : decode cX12_add 96 = .ok (.iload 8, 2) := by decide +kernel
theorem dX12_add_98 : decode cX12_add 98 = .ok (.iconst (-1), 1) := by decide +kernel
theorem dX12_add_99 : decode cX12_add 99 = .ok (.if_icmp .eq 11, 3) := by decide +kernel
theorem dX12_add_102 : decode cX12_add 102 = .ok (.aload_n 0, 1) := by decide +kernel
theorem dX12_add_103 : decode cX12_add 103 = .ok (.getfield 23, 3) := by decide +kernel
theorem dX12_add_106 : decode cX12_add 106 = .ok (.iload 8, 2) := by decide +kernel
theorem dX12_add_108 : decode cX12_add 108 = .ok (.iconst 1, 1) := by decide +kernel
theorem dX12_add_109 : decode cX12_add 109 = .ok (.bastore, 1) := by decide +kernel
theorem dX12_add_110 : decode cX12_add 110 = .ok (.aload_n 0, 1) := by decide +kernel
theorem dX12_add_111 : decode cX12_add 111 = .ok (.getfield 196, 3) := by decide +kernel
theorem dX12_add_114 : decode cX12_add 114 = .ok (.istore 9, 2) := by decide +kernel
theorem dX12_add_116 : decode cX12_add 116 = .ok (.aload_n 0, 1) := by decide +kernel
theorem dX12_add_117 : decode cX12_add 117 = .ok (.dup, 1) := by decide +kernel
theorem dX12_add_118 : decode cX12_add 118 = .ok (.getfield 196, 3) := by decide +kernel
theorem dX12_add_121 : decode cX12_add 121 = .ok (.iconst 1, 1) := by decide +kernel
theorem dX12_add_122 : decode cX12_add 122 = .ok (.iadd, 1) := by decide +kernel
theorem dX12_add_123 : decode cX12_add 123 = .ok (.putfield 196, 3) := by decide +kernel
theorem dX12_add_126 : decode cX12_add 126 = .ok (.aload_n 0, 1) := by decide +kernel
theorem dX12_add_127 : decode cX12_add 127 = .ok (.getfield 13, 3) := by decide +kernel
theorem dX12_add_130 : decode cX12_add 130 = .ok (.iload 9, 2) := by decide +kernel
theorem dX12_add_132 : decode cX12_add 132 = .ok (.lload_n 1, 1) := by decide +kernel
theorem dX12_add_133 : decode cX12_add 133 = .ok (.lastore, 1) := by decide +kernel
theorem dX12_add_134 : decode cX12_add 134 = .ok (.aload_n 0, 1) := by decide +kernel
theorem dX12_add_135 : decode cX12_add 135 = .ok (.getfield 17, 3) := by decide +kernel
theorem dX12_add_138 : decode cX12_add 138 = .ok (.iload 9, 2) := by decide +kernel
theorem dX12_add_140 : decode cX12_add 140 = .ok (.iload_n 3, 1) := by decide +kernel
theorem dX12_add_141 : decode cX12_add 141 = .ok (.iastore, 1) := by decide +kernel
theorem dX12_add_142 : decode cX12_add 142 = .ok (.aload_n 0, 1) := by decide +kernel
theorem dX12_add_143 : decode cX12_add 143 = .ok (.getfield 20, 3) := by decide +kernel
theorem dX12_add_146 : decode cX12_add 146 = .ok (.iload 9, 2) := by decide +kernel
theorem dX12_add_148 : decode cX12_add 148 = .ok (.iload 4, 2) := by decide +kernel
theorem dX12_add_150 : decode cX12_add 150 = .ok (.iastore, 1) := by decide +kernel
theorem dX12_add_151 : decode cX12_add 151 = .ok (.aload_n 0, 1) := by decide +kernel
theorem dX12_add_152 : decode cX12_add 152 = .ok (.iload 9, 2) := by decide +kernel
theorem dX12_add_154 : decode cX12_add 154 = .ok (.iconst 0, 1) := by decide +kernel
theorem dX12_add_155 : decode cX12_add 155 = .ok (.iconst 0, 1) := by decide +kernel
theorem dX12_add_156 : decode cX12_add 156 = .ok (.iload 6, 2) := by decide +kernel
theorem dX12_add_158 : decode cX12_add 158 = .ok (.invokevirtual 203, 3) := by decide +kernel
theorem dX12_add_161 : decode cX12_add 161 = .ok (.aload_n 0, 1) := by decide +kernel
theorem dX12_add_162 : decode cX12_add 162 = .ok (.iload 9, 2) := by decide +kernel
theorem dX12_add_164 : decode cX12_add 164 = .ok (.iconst 1, 1) := by decide +kernel
theorem dX12_add_165 : decode cX12_add 165 = .ok (.iload 7, 2) := by decide +kernel
theorem dX12_add_167 : decode cX12_add 167 = .ok (.iload 5, 2) := by decide +kernel
theorem dX12_add_169 : decode cX12_add 169 = .ok (.invokevirtual 203, 3) := by decide +kernel
theorem dX12_add_172 : decode cX12_add 172 = .ok (.aload_n 0, 1) := by decide +kernel
theorem dX12_add_173 : decode cX12_add 173 = .ok (.getfield 44, 3) := by decide +kernel
theorem dX12_add_176 : decode cX12_add 176 = .ok (.aload_n 0, 1) := by decide +kernel
theorem dX12_add_177 : decode cX12_add 177 = .ok (.getfield 207, 3) := by decide +kernel
theorem dX12_add_180 : decode cX12_add 180 = .ok (.iload 9, 2) := by decide +kernel
theorem dX12_add_182 : decode cX12_add 182 = .ok (.iastore, 1) := by decide +kernel
theorem dX12_add_183 : decode cX12_add 183 = .ok (.aload_n 0, 1) := by decide +kernel
theorem dX12_add_184 : decode cX12_add 184 = .ok (.dup, 1) := by decide +kernel
theorem dX12_add_185 : decode cX12_add 185 = .ok (.getfield 207, 3) := by decide +kernel
theorem dX12_add_188 : decode cX12_add 188 = .ok (.iconst 1, 1) := by decide +kernel
theorem dX12_add_189 : decode cX12_add 189 = .ok (.iadd, 1) := by decide +kernel
theorem dX12_add_190 : decode cX12_add 190 = .ok (.putfield 207, 3) := by decide +kernel
theorem dX12_add_193 : decode cX12_add 193 = .ok (.aload_n 0, 1) := by decide +kernel
theorem dX12_add_194 : decode cX12_add 194 = .ok (.invokevirtual 210, 3) := by decide +kernel
theorem dX12_add_197 : decode cX12_add 197 = .ok (.bipush 16, 2) := by decide +kernel
theorem dX12_add_199 : decode cX12_add 199 = .ok (.if_icmp .ne 8, 3) := by decide +kernel
theorem dX12_add_202 : decode cX12_add 202 = .ok (.aload_n 0, 1) := by decide +kernel
theorem dX12_add_203 : decode cX12_add 203 = .ok (.invokevirtual 214, 3) := by decide +kernel
theorem dX12_add_206 : decode cX12_add 206 = .ok (.pop, 1) := by decide +kernel
theorem dX12_add_207 : decode cX12_add 207 = .ok (.aload_n 0, 1) := by decide +kernel
theorem dX12_add_208 : decode cX12_add 208 = .ok (.getfield 196, 3) := by decide +kernel
theorem dX12_add_211 : decode cX12_add 211 = .ok (.ireturn, 1) := by decide +kernel
theorem dX12_inBuffer_0 : decode cX12_inBuffer 0 = .ok (.iconst 0, 1) := by decide +kernel
theorem dX12_inBuffer_1 : decode cX12_inBuffer 1 = .ok (.istore_n 1, 1) := by decide +kernel
theorem dX12_inBuffer_2 : decode cX12_inBuffer 2 = .ok (.iconst 0, 1) := by decide +kernel
theorem dX12_inBuffer_3 : decode cX12_inBuffer 3 = .ok (.istore_n 2, 1) := by decide +kernel
theorem dX12_inBuffer_4 : decode cX12_inBuffer 4 = .ok (.iload_n 2, 1) := by decide +kernel
theorem dX12_inBuffer_5 : decode cX12_inBuffer 5 = .ok (.aload_n 0, 1) := by decide +kernel
theorem dX12_inBuffer_6 : decode cX12_inBuffer 6 = .ok (.getfield 207, 3) := by decide +kernel
theorem dX12_inBuffer_9 : decode cX12_inBuffer 9 = .ok (.if_icmp .ge 31, 3) := by decide +kernel
theorem dX12_inBuffer_12 : decode cX12_inBuffer 12 = .ok (.iload_n 1, 1) := by decide +kernel
theorem dX12_inBuffer_13 : decode cX12_inBuffer 13 = .ok (.aload_n 0, 1) := by decide +kernel
theorem dX12_inBuffer_14 : decode cX12_inBuffer 14 = .ok (.getfield 23, 3) := by decide +kernel
theorem dX12_inBuffer_17 : decode cX12_inBuffer 17 = .ok (.aload_n 0, 1) := by decide +kernel
theorem dX12_inBuffer_18 : decode cX12_inBuffer 18 = .ok (.getfield 44, 3) := by decide +kernel
theorem dX12_inBuffer_21 : decode cX12_inBuffer 21 = .ok (.iload_n 2, 1) := by decide +kernel
theorem dX12_inBuffer_22 : decode cX12_inBuffer 22 = .ok (.iaload, 1) := by decide +kernel
theorem dX12_inBuffer_23 : decode cX12_inBuffer 23 = .ok (.baload, 1) := by decide +kernel
theorem dX12_inBuffer_24 : decode cX12_inBuffer 24 = .ok (.ifCond .eq 7, 3) := by decide +kernel
theorem dX12_inBuffer_27 : decode cX12_inBuffer 27 = .ok (.iconst 0, 1) := by decide +kernel
theorem dX12_inBuffer_28 : decode cX12_inBuffer 28 = .ok (.goto 4, 3) := by decide +kernel
theorem dX12_inBuffer_31 : decode cX12_inBuffer 31 = .ok (.iconst 1, 1) := by decide +kernel
theorem dX12_inBuffer_32 : decode cX12_inBuffer 32 = .ok (.iadd, 1) := by decide +kernel
theorem dX12_inBuffer_33 : decode cX12_inBuffer 33 = .ok (.istore_n 1, 1) := by decide +kernel
theorem dX12_inBuffer_34 : decode cX12_inBuffer 34 = .ok (.iinc 2 1, 3) := by decide +kernel
theorem dX12_inBuffer_37 : decode cX12_inBuffer 37 = .ok (.goto (-33), 3) := by decide +kernel
theorem dX12_inBuffer_40 : decode cX12_inBuffer 40 = .ok (.iload_n 1, 1) := by decide +kernel
theorem dX12_inBuffer_41 : decode cX12_inBuffer 41 = .ok (.ireturn, 1) := by decide +kernel
theorem dX12_delete_0 : decode cX12_delete 0 = .ok (.aload_n 0, 1) := by decide +kernel
theorem dX12_delete_1 : decode cX12_delete 1 = .ok (.lload_n 1, 1) := by decide +kernel
theorem dX12_delete_2 : decode cX12_delete 2 = .ok (.invokevirtual 199, 3) := by decide +kernel
theorem dX12_delete_5 : decode cX12_delete 5 = .ok (.istore_n 3, 1) := by decide +kernel
theorem dX12_delete_6 : decode cX12_delete 6 = .ok (.iload_n 3, 1) := by decide +kernel
theorem dX12_delete_7 : decode cX12_delete 7 = .ok (.iconst (-1), 1) := by decide +kernel
theorem dX12_delete_8 : decode cX12_delete 8 = .ok (.if_icmp .ne 5, 3) := by decide +kernel
theorem dX12_delete_11 : decode cX12_delete 11 = .ok (.iconst 0, 1) := by decide +kernel
theorem dX12_delete_12 : decode cX12_delete 12 = .ok (.ireturn, 1) := by decide +kernel
theorem dX12_delete_13 : decode cX12_delete 13 = .ok (.aload_n 0, 1) := by decide +kernel
theorem dX12_delete_14 : decode cX12_delete 14 = .ok (.getfield 23, 3) := by decide +kernel
theorem dX12_delete_17 : decode cX12_delete 17 = .ok (.iload_n 3, 1) := by decide +kernel
theorem dX12_delete_18 : decode cX12_delete 18 = .ok (.iconst 1, 1) := by decide +kernel
theorem dX12_delete_19 : decode cX12_delete 19 = .ok (.bastore, 1) := by decide +kernel
theorem dX12_delete_20 : decode cX12_delete 20 = .ok (.iconst 1, 1) := by decide +kernel
theorem dX12_delete_21 : decode cX12_delete 21 = .ok (.ireturn, 1) := by decide +kernel
theorem dX12_refresh_0 : decode cX12_refresh 0 = .ok (.aload_n 0, 1) := by decide +kernel
theorem dX12_refresh_1 : decode cX12_refresh 1 = .ok (.invokevirtual 210, 3) := by decide +kernel
theorem dX12_refresh_4 : decode cX12_refresh 4 = .ok (.ifCond .le 73, 3) := by decide +kernel
theorem dX12_refresh_7 : decode cX12_refresh 7 = .ok (.aload_n 0, 1) := by decide +kernel
theorem dX12_refresh_8 : decode cX12_refresh 8 = .ok (.getfield 217, 3) := by decide +kernel
theorem dX12_refresh_11 : decode cX12_refresh 11 = .ok (.istore_n 1, 1) := by decide +kernel
theorem dX12_refresh_12 : decode cX12_refresh 12 = .ok (.aload_n 0, 1) := by decide +kernel
theorem dX12_refresh_13 : decode cX12_refresh 13 = .ok (.dup, 1) := by decide +kernel
theorem dX12_refresh_14 : decode cX12_refresh 14 = .ok (.getfield 217, 3) := by decide +kernel
theorem dX12_refresh_17 : decode cX12_refresh 17 = .ok (.iconst 1, 1) := by decide +kernel
theorem dX12_refresh_18 : decode cX12_refresh 18 = .ok (.iadd, 1) := by decide +kernel
theorem dX12_refresh_19 : decode cX12_refresh 19 = .ok (.putfield 217, 3) := by decide +kernel
theorem dX12_refresh_22 : decode cX12_refresh 22 = .ok (.aload_n 0, 1) := by decide +kernel
theorem dX12_refresh_23 : decode cX12_refresh 23 = .ok (.getfield 47, 3) := by decide +kernel
theorem dX12_refresh_26 : decode cX12_refresh 26 = .ok (.iload_n 1, 1) := by decide +kernel
theorem dX12_refresh_27 : decode cX12_refresh 27 = .ok (.iconst 0, 1) := by decide +kernel
theorem dX12_refresh_28 : decode cX12_refresh 28 = .ok (.iastore, 1) := by decide +kernel
theorem dX12_refresh_29 : decode cX12_refresh 29 = .ok (.aload_n 0, 1) := by decide +kernel
theorem dX12_refresh_30 : decode cX12_refresh 30 = .ok (.getfield 50, 3) := by decide +kernel
theorem dX12_refresh_33 : decode cX12_refresh 33 = .ok (.iload_n 1, 1) := by decide +kernel
theorem dX12_refresh_34 : decode cX12_refresh 34 = .ok (.iconst 0, 1) := by decide +kernel
theorem dX12_refresh_35 : decode cX12_refresh 35 = .ok (.iastore, 1) := by decide +kernel
theorem dX12_refresh_36 : decode cX12_refresh 36 = .ok (.iconst 0, 1) := by decide +kernel
theorem dX12_refresh_37 : decode cX12_refresh 37 = .ok (.istore_n 2, 1) := by decide +kernel
theorem dX12_refresh_38 : decode cX12_refresh 38 = .ok (.iload_n 2, 1) := by decide +kernel
theorem dX12_refresh_39 : decode cX12_refresh 39 = .ok (.aload_n 0, 1) := by decide +kernel
theorem dX12_refresh_40 : decode cX12_refresh 40 = .ok (.getfield 207, 3) := by decide +kernel
theorem dX12_refresh_43 : decode cX12_refresh 43 = .ok (.if_icmp .ge 34, 3) := by decide +kernel
theorem dX12_refresh_46 : decode cX12_refresh 46 = .ok (.aload_n 0, 1) := by decide +kernel
theorem dX12_refresh_47 : decode cX12_refresh 47 = .ok (.getfield 23, 3) := by decide +kernel
theorem dX12_refresh_50 : decode cX12_refresh 50 = .ok (.aload_n 0, 1) := by decide +kernel
theorem dX12_refresh_51 : decode cX12_refresh 51 = .ok (.getfield 44, 3) := by decide +kernel
theorem dX12_refresh_54 : decode cX12_refresh 54 = .ok (.iload_n 2, 1) := by decide +kernel
theorem dX12_refresh_55 : decode cX12_refresh 55 = .ok (.iaload, 1) := by decide +kernel
theorem dX12_refresh_56 : decode cX12_refresh 56 = .ok (.baload, 1) := by decide +kernel
theorem dX12_refresh_57 : decode cX12_refresh 57 = .ok (.ifCond .ne 14, 3) := by decide +kernel
theorem dX12_refresh_60 : decode cX12_refresh 60 = .ok (.aload_n 0, 1) := by decide +kernel
theorem dX12_refresh_61 : decode cX12_refresh 61 = .ok (.iload_n 1, 1) := by decide +kernel
theorem dX12_refresh_62 : decode cX12_refresh 62 = .ok (.aload_n 0, 1) := by decide +kernel
theorem dX12_refresh_63 : decode cX12_refresh 63 = .ok (.getfield 44, 3) := by decide +kernel
theorem dX12_refresh_66 : decode cX12_refresh 66 = .ok (.iload_n 2, 1) := by decide +kernel
theorem dX12_refresh_67 : decode cX12_refresh 67 = .ok (.iaload, 1) := by decide +kernel
theorem dX12_refresh_68 : decode cX12_refresh 68 = .ok (.invokevirtual 220, 3) := by decide +kernel
theorem dX12_refresh_71 : decode cX12_refresh 71 = .ok (.iinc 2 1, 3) := by decide +kernel
theorem dX12_refresh_74 : decode cX12_refresh 74 = .ok (.goto (-36), 3) := by decide +kernel
theorem dX12_refresh_77 : decode cX12_refresh 77 = .ok (.aload_n 0, 1) := by decide +kernel
theorem dX12_refresh_78 : decode cX12_refresh 78 = .ok (.iconst 0, 1) := by decide +kernel
theorem dX12_refresh_79 : decode cX12_refresh 79 = .ok (.putfield 207, 3) := by decide +kernel
theorem dX12_refresh_82 : decode cX12_refresh 82 = .ok (.aload_n 0, 1) := by decide +kernel
theorem dX12_refresh_83 : decode cX12_refresh 83 = .ok (.invokevirtual 223, 3) := by decide +kernel
theorem dX12_refresh_86 : decode cX12_refresh 86 = .ok (.istore_n 1, 1) := by decide +kernel
theorem dX12_refresh_87 : decode cX12_refresh 87 = .ok (.iload_n 1, 1) := by decide +kernel
theorem dX12_refresh_88 : decode cX12_refresh 88 = .ok (.iconst (-1), 1) := by decide +kernel
theorem dX12_refresh_89 : decode cX12_refresh 89 = .ok (.if_icmp .eq 16, 3) := by decide +kernel
theorem dX12_refresh_92 : decode cX12_refresh 92 = .ok (.aload_n 0, 1) := by decide +kernel
theorem dX12_refresh_93 : decode cX12_refresh 93 = .ok (.iload_n 1, 1) := by decide +kernel
theorem dX12_refresh_94 : decode cX12_refresh 94 = .ok (.invokevirtual 226, 3) := by decide +kernel
theorem dX12_refresh_97 : decode cX12_refresh 97 = .ok (.aload_n 0, 1) := by decide +kernel
theorem dX12_refresh_98 : decode cX12_refresh 98 = .ok (.invokevirtual 223, 3) := by decide +kernel
theorem dX12_refresh_101 : decode cX12_refresh 101 = .ok (.istore_n 1, 1) := by decide +kernel
theorem dX12_refresh_102 : decode cX12_refresh 102 = .ok (.goto (-15), 3) := by decide +kernel
theorem dX12_refresh_105 : decode cX12_refresh 105 = .ok (.aload_n 0, 1) := by decide +kernel
theorem dX12_refresh_106 : decode cX12_refresh 106 = .ok (.getfield 217, 3) := by decide +kernel
theorem dX12_refresh_109 : decode cX12_refresh 109 = .ok (.ireturn, 1) := by decide +kernel
theorem dX12_put_0 : decode cX12_put 0 = .ok (.aload_n 0, 1) := by decide +kernel
theorem dX12_put_1 : decode cX12_put 1 = .ok (.getfield 54, 3) := by decide +kernel
theorem dX12_put_4 : decode cX12_put 4 = .ok (.sipush 400, 3) := by decide +kernel
theorem dX12_put_7 : decode cX12_put 7 = .ok (.iload_n 1, 1) := by decide +kernel
theorem dX12_put_8 : decode cX12_put 8 = .ok (.imul, 1) := by decide +kernel
theorem dX12_put_9 : decode cX12_put 9 = .ok (.aload_n 0, 1) := by decide +kernel
theorem dX12_put_10 : decode cX12_put 10 = .ok (.getfield 50, 3) := by decide +kernel
theorem dX12_put_13 : decode cX12_put 13 = .ok (.iload_n 1, 1) := by decide +kernel
theorem dX12_put_14 : decode cX12_put 14 = .ok (.iaload, 1) := by decide +kernel
theorem dX12_put_15 : decode cX12_put 15 = .ok (.iadd, 1) := by decide +kernel
theorem dX12_put_16 : decode cX12_put 16 = .ok (.iload_n 2, 1) := by decide +kernel
theorem dX12_put_17 : decode cX12_put 17 = .ok (.iastore, 1) := by decide +kernel
theorem dX12_put_18 : decode cX12_put 18 = .ok (.aload_n 0, 1) := by decide +kernel
theorem dX12_put_19 : decode cX12_put 19 = .ok (.getfield 50, 3) := by decide +kernel
theorem dX12_put_22 : decode cX12_put 22 = .ok (.iload_n 1, 1) := by decide +kernel
theorem dX12_put_23 : decode cX12_put 23 = .ok (.dup2, 1) := by decide +kernel
theorem dX12_put_24 : decode cX12_put 24 = .ok (.iaload, 1) := by decide +kernel
theorem dX12_put_25 : decode cX12_put 25 = .ok (.iconst 1, 1) := by decide +kernel
theorem dX12_put_26 : decode cX12_put 26 = .ok (.iadd, 1) := by decide +kernel
theorem dX12_put_27 : decode cX12_put 27 = .ok (.iastore, 1) := by decide +kernel
theorem dX12_put_28 : decode cX12_put 28 = .ok (.return_, 1) := by decide +kernel
theorem dX12_fourOf_0 : decode cX12_fourOf 0 = .ok (.iconst (-1), 1) := by decide +kernel
theorem dX12_fourOf_1 : decode cX12_fourOf 1 = .ok (.istore_n 1, 1) := by decide +kernel
theorem dX12_fourOf_2 : decode cX12_fourOf 2 = .ok (.iconst 0, 1) := by decide +kernel
theorem dX12_fourOf_3 : decode cX12_fourOf 3 = .ok (.istore_n 2, 1) := by decide +kernel
theorem dX12_fourOf_4 : decode cX12_fourOf 4 = .ok (.iload_n 2, 1) := by decide +kernel
theorem dX12_fourOf_5 : decode cX12_fourOf 5 = .ok (.aload_n 0, 1) := by decide +kernel
theorem dX12_fourOf_6 : decode cX12_fourOf 6 = .ok (.getfield 217, 3) := by decide +kernel
theorem dX12_fourOf_9 : decode cX12_fourOf 9 = .ok (.if_icmp .ge 80, 3) := by decide +kernel
theorem dX12_fourOf_12 : decode cX12_fourOf 12 = .ok (.iconst 0, 1) := by decide +kernel
theorem dX12_fourOf_13 : decode cX12_fourOf 13 = .ok (.istore_n 3, 1) := by decide +kernel
theorem dX12_fourOf_14 : decode cX12_fourOf 14 = .ok (.iconst 0, 1) := by decide +kernel
theorem dX12_fourOf_15 : decode cX12_fourOf 15 = .ok (.istore 4, 2) := by decide +kernel
theorem dX12_fourOf_17 : decode cX12_fourOf 17 = .ok (.iload 4, 2) := by decide +kernel
theorem dX12_fourOf_19 : decode cX12_fourOf 19 = .ok (.aload_n 0, 1) := by decide +kernel
theorem dX12_fourOf_20 : decode cX12_fourOf 20 = .ok (.getfield 217, 3) := by decide +kernel
theorem dX12_fourOf_23 : decode cX12_fourOf 23 = .ok (.if_icmp .ge 33, 3) := by decide +kernel
theorem dX12_fourOf_26 : decode cX12_fourOf 26 = .ok (.iload_n 3, 1) := by decide +kernel
theorem dX12_fourOf_27 : decode cX12_fourOf 27 = .ok (.aload_n 0, 1) := by decide +kernel
theorem dX12_fourOf_28 : decode cX12_fourOf 28 = .ok (.getfield 47, 3) := by decide +kernel
theorem dX12_fourOf_31 : decode cX12_fourOf 31 = .ok (.iload 4, 2) := by decide +kernel
theorem dX12_fourOf_33 : decode cX12_fourOf 33 = .ok (.iaload, 1) := by decide +kernel
theorem dX12_fourOf_34 : decode cX12_fourOf 34 = .ok (.aload_n 0, 1) := by decide +kernel
theorem dX12_fourOf_35 : decode cX12_fourOf 35 = .ok (.getfield 47, 3) := by decide +kernel
theorem dX12_fourOf_38 : decode cX12_fourOf 38 = .ok (.iload_n 2, 1) := by decide +kernel
theorem dX12_fourOf_39 : decode cX12_fourOf 39 = .ok (.iaload, 1) := by decide +kernel
theorem dX12_fourOf_40 : decode cX12_fourOf 40 = .ok (.if_icmp .ne 7, 3) := by decide +kernel
theorem dX12_fourOf_43 : decode cX12_fourOf 43 = .ok (.iconst 1, 1) := by decide +kernel
theorem dX12_fourOf_44 : decode cX12_fourOf 44 = .ok (.goto 4, 3) := by decide +kernel
theorem dX12_fourOf_47 : decode cX12_fourOf 47 = .ok (.iconst 0, 1) := by decide +kernel
theorem dX12_fourOf_48 : decode cX12_fourOf 48 = .ok (.iadd, 1) := by decide +kernel
theorem dX12_fourOf_49 : decode cX12_fourOf 49 = .ok (.istore_n 3, 1) := by decide +kernel
theorem dX12_fourOf_50 : decode cX12_fourOf 50 = .ok (.iinc 4 1, 3) := by decide +kernel
theorem dX12_fourOf_53 : decode cX12_fourOf 53 = .ok (.goto (-36), 3) := by decide +kernel
theorem dX12_fourOf_56 : decode cX12_fourOf 56 = .ok (.iload_n 3, 1) := by decide +kernel
theorem dX12_fourOf_57 : decode cX12_fourOf 57 = .ok (.iconst 4, 1) := by decide +kernel
theorem dX12_fourOf_58 : decode cX12_fourOf 58 = .ok (.if_icmp .lt 25, 3) := by decide +kernel
theorem dX12_fourOf_61 : decode cX12_fourOf 61 = .ok (.iload_n 1, 1) := by decide +kernel
theorem dX12_fourOf_62 : decode cX12_fourOf 62 = .ok (.iconst (-1), 1) := by decide +kernel
theorem dX12_fourOf_63 : decode cX12_fourOf 63 = .ok (.if_icmp .eq 13, 3) := by decide +kernel
theorem dX12_fourOf_66 : decode cX12_fourOf 66 = .ok (.aload_n 0, 1) := by decide +kernel
theorem dX12_fourOf_67 : decode cX12_fourOf 67 = .ok (.getfield 47, 3) := by decide +kernel
theorem dX12_fourOf_70 : decode cX12_fourOf 70 = .ok (.iload_n 2, 1) := by decide +kernel
theorem dX12_fourOf_71 : decode cX12_fourOf 71 = .ok (.iaload, 1) := by decide +kernel
theorem dX12_fourOf_72 : decode cX12_fourOf 72 = .ok (.iload_n 1, 1) := by decide +kernel
theorem dX12_fourOf_73 : decode cX12_fourOf 73 = .ok (.if_icmp .ge 10, 3) := by decide +kernel
theorem dX12_fourOf_76 : decode cX12_fourOf 76 = .ok (.aload_n 0, 1) := by decide +kernel
theorem dX12_fourOf_77 : decode cX12_fourOf 77 = .ok (.getfield 47, 3) := by decide +kernel
theorem dX12_fourOf_80 : decode cX12_fourOf 80 = .ok (.iload_n 2, 1) := by decide +kernel
theorem dX12_fourOf_81 : decode cX12_fourOf 81 = .ok (.iaload, 1) := by decide +kernel
theorem dX12_fourOf_82 : decode cX12_fourOf 82 = .ok (.istore_n 1, 1) := by decide +kernel
theorem dX12_fourOf_83 : decode cX12_fourOf 83 = .ok (.iinc 2 1, 3) := by decide +kernel
theorem dX12_fourOf_86 : decode cX12_fourOf 86 = .ok (.goto (-82), 3) := by decide +kernel
theorem dX12_fourOf_89 : decode cX12_fourOf 89 = .ok (.iload_n 1, 1) := by decide +kernel
theorem dX12_fourOf_90 : decode cX12_fourOf 90 = .ok (.ireturn, 1) := by decide +kernel
theorem dX12_merge_0 : decode cX12_merge 0 = .ok (.aload_n 0, 1) := by decide +kernel
theorem dX12_merge_1 : decode cX12_merge 1 = .ok (.dup, 1) := by decide +kernel
theorem dX12_merge_2 : decode cX12_merge 2 = .ok (.getfield 230, 3) := by decide +kernel
theorem dX12_merge_5 : decode cX12_merge 5 = .ok (.iconst 1, 1) := by decide +kernel
theorem dX12_merge_6 : decode cX12_merge 6 = .ok (.iadd, 1) := by decide +kernel
theorem dX12_merge_7 : decode cX12_merge 7 = .ok (.putfield 230, 3) := by decide +kernel
theorem dX12_merge_10 : decode cX12_merge 10 = .ok (.iconst 0, 1) := by decide +kernel
theorem dX12_merge_11 : decode cX12_merge 11 = .ok (.istore_n 2, 1) := by decide +kernel
theorem dX12_merge_12 : decode cX12_merge 12 = .ok (.iconst 0, 1) := by decide +kernel
theorem dX12_merge_13 : decode cX12_merge 13 = .ok (.istore_n 3, 1) := by decide +kernel
theorem dX12_merge_14 : decode cX12_merge 14 = .ok (.iconst (-1), 1) := by decide +kernel
theorem dX12_merge_15 : decode cX12_merge 15 = .ok (.istore 4, 2) := by decide +kernel
theorem dX12_merge_17 : decode cX12_merge 17 = .ok (.iconst 0, 1) := by decide +kernel
theorem dX12_merge_18 : decode cX12_merge 18 = .ok (.istore 5, 2) := by decide +kernel
theorem dX12_merge_20 : decode cX12_merge 20 = .ok (.iconst 0, 1) := by decide +kernel
theorem dX12_merge_21 : decode cX12_merge 21 = .ok (.istore 6, 2) := by decide +kernel
theorem dX12_merge_23 : decode cX12_merge 23 = .ok (.iload 6, 2) := by decide +kernel
theorem dX12_merge_25 : decode cX12_merge 25 = .ok (.aload_n 0, 1) := by decide +kernel
theorem dX12_merge_26 : decode cX12_merge 26 = .ok (.getfield 217, 3) := by decide +kernel
theorem dX12_merge_29 : decode cX12_merge 29 = .ok (.if_icmp .ge 143, 3) := by decide +kernel
theorem dX12_merge_32 : decode cX12_merge 32 = .ok (.aload_n 0, 1) := by decide +kernel
theorem dX12_merge_33 : decode cX12_merge 33 = .ok (.getfield 47, 3) := by decide +kernel
theorem dX12_merge_36 : decode cX12_merge 36 = .ok (.iload 6, 2) := by decide +kernel
theorem dX12_merge_38 : decode cX12_merge 38 = .ok (.iaload, 1) := by decide +kernel
theorem dX12_merge_39 : decode cX12_merge 39 = .ok (.iload_n 1, 1) := by decide +kernel
theorem dX12_merge_40 : decode cX12_merge 40 = .ok (.if_icmp .ne 12, 3) := by decide +kernel
theorem dX12_merge_43 : decode cX12_merge 43 = .ok (.iload_n 3, 1) := by decide +kernel
theorem dX12_merge_44 : decode cX12_merge 44 = .ok (.iconst 4, 1) := by decide +kernel
theorem dX12_merge_45 : decode cX12_merge 45 = .ok (.if_icmp .ge 7, 3) := by decide +kernel
theorem dX12_merge_48 : decode cX12_merge 48 = .ok (.iconst 1, 1) := by decide +kernel
theorem dX12_merge_49 : decode cX12_merge 49 = .ok (.goto 4, 3) := by decide +kernel
theorem dX12_merge_52 : decode cX12_merge 52 = .ok (.iconst 0, 1) := by decide +kernel
theorem dX12_merge_53 : decode cX12_merge 53 = .ok (.istore 7, 2) := by decide +kernel
theorem dX12_merge_55 : decode cX12_merge 55 = .ok (.iload 7, 2) := by decide +kernel
theorem dX12_merge_57 : decode cX12_merge 57 = .ok (.ifCond .eq 75, 3) := by decide +kernel
theorem dX12_merge_60 : decode cX12_merge 60 = .ok (.iconst 0, 1) := by decide +kernel
theorem dX12_merge_61 : decode cX12_merge 61 = .ok (.istore 8, 2) := by decide +kernel
theorem dX12_merge_63 : decode cX12_merge 63 = .ok (.iload 8, 2) := by decide +kernel
theorem dX12_merge_65 : decode cX12_merge 65 = .ok (.aload_n 0, 1) := by decide +kernel
theorem dX12_merge_66 : decode cX12_merge 66 = .ok (.getfield 50, 3) := by decide +kernel
theorem dX12_merge_69 : decode cX12_merge 69 = .ok (.iload 6, 2) := by decide +kernel
theorem dX12_merge_71 : decode cX12_merge 71 = .ok (.iaload, 1) := by decide +kernel
theorem dX12_merge_72 : decode cX12_merge 72 = .ok (.if_icmp .ge 57, 3) := by decide +kernel
theorem dX12_merge_75 : decode cX12_merge 75 = .ok (.aload_n 0, 1) := by decide +kernel
theorem dX12_merge_76 : decode cX12_merge 76 = .ok (.getfield 23, 3) := by decide +kernel
theorem dX12_merge_79 : decode cX12_merge 79 = .ok (.aload_n 0, 1) := by decide +kernel
theorem dX12_merge_80 : decode cX12_merge 80 = .ok (.getfield 54, 3) := by decide +kernel
theorem dX12_merge_83 : decode cX12_merge 83 = .ok (.sipush 400, 3) := by decide +kernel
theorem dX12_merge_86 : decode cX12_merge 86 = .ok (.iload 6, 2) := by decide +kernel
theorem dX12_merge_88 : decode cX12_merge 88 = .ok (.imul, 1) := by decide +kernel
theorem dX12_merge_89 : decode cX12_merge 89 = .ok (.iload 8, 2) := by decide +kernel
theorem dX12_merge_91 : decode cX12_merge 91 = .ok (.iadd, 1) := by decide +kernel
theorem dX12_merge_92 : decode cX12_merge 92 = .ok (.iaload, 1) := by decide +kernel
theorem dX12_merge_93 : decode cX12_merge 93 = .ok (.baload, 1) := by decide +kernel
theorem dX12_merge_94 : decode cX12_merge 94 = .ok (.ifCond .eq 6, 3) := by decide +kernel
theorem dX12_merge_97 : decode cX12_merge 97 = .ok (.goto 26, 3) := by decide +kernel
theorem dX12_merge_100 : decode cX12_merge 100 = .ok (.aload_n 0, 1) := by decide +kernel
theorem dX12_merge_101 : decode cX12_merge 101 = .ok (.getfield 103, 3) := by decide +kernel
theorem dX12_merge_104 : decode cX12_merge 104 = .ok (.iload_n 2, 1) := by decide +kernel
theorem dX12_merge_105 : decode cX12_merge 105 = .ok (.aload_n 0, 1) := by decide +kernel
theorem dX12_merge_106 : decode cX12_merge 106 = .ok (.getfield 54, 3) := by decide +kernel
theorem dX12_merge_109 : decode cX12_merge 109 = .ok (.sipush 400, 3) := by decide +kernel
theorem dX12_merge_112 : decode cX12_merge 112 = .ok (.iload 6, 2) := by decide +kernel
theorem dX12_merge_114 : decode cX12_merge 114 = .ok (.imul, 1) := by decide +kernel
theorem dX12_merge_115 : decode cX12_merge 115 = .ok (.iload 8, 2) := by decide +kernel
theorem dX12_merge_117 : decode cX12_merge 117 = .ok (.iadd, 1) := by decide +kernel
theorem dX12_merge_118 : decode cX12_merge 118 = .ok (.iaload, 1) := by decide +kernel
theorem dX12_merge_119 : decode cX12_merge 119 = .ok (.iastore, 1) := by decide +kernel
theorem dX12_merge_120 : decode cX12_merge 120 = .ok (.iinc 2 1, 3) := by decide +kernel
theorem dX12_merge_123 : decode cX12_merge 123 = .ok (.iinc 8 1, 3) := by decide +kernel
theorem dX12_merge_126 : decode cX12_merge 126 = .ok (.goto (-63), 3) := by decide +kernel
theorem dX12_merge_129 : decode cX12_merge 129 = .ok (.iinc 3 1, 3) := by decide +kernel
theorem dX12_merge_132 : decode cX12_merge 132 = .ok (.iload 7, 2) := by decide +kernel
theorem dX12_merge_134 : decode cX12_merge 134 = .ok (.ifCond .eq 12, 3) := by decide +kernel
theorem dX12_merge_137 : decode cX12_merge 137 = .ok (.iload 4, 2) := by decide +kernel
theorem dX12_merge_139 : decode cX12_merge 139 = .ok (.iconst (-1), 1) := by decide +kernel
theorem dX12_merge_140 : decode cX12_merge 140 = .ok (.if_icmp .eq 6, 3) := by decide +kernel
theorem dX12_merge_143 : decode cX12_merge 143 = .ok (.goto 23, 3) := by decide +kernel
theorem dX12_merge_146 : decode cX12_merge 146 = .ok (.iload 7, 2) := by decide +kernel
theorem dX12_merge_148 : decode cX12_merge 148 = .ok (.ifCond .eq 7, 3) := by decide +kernel
theorem dX12_merge_151 : decode cX12_merge 151 = .ok (.iload 5, 2) := by decide +kernel
theorem dX12_merge_153 : decode cX12_merge 153 = .ok (.istore 4, 2) := by decide +kernel
theorem dX12_merge_155 : decode cX12_merge 155 = .ok (.aload_n 0, 1) := by decide +kernel
theorem dX12_merge_156 : decode cX12_merge 156 = .ok (.iload 6, 2) := by decide +kernel
theorem dX12_merge_158 : decode cX12_merge 158 = .ok (.iload 5, 2) := by decide +kernel
theorem dX12_merge_160 : decode cX12_merge 160 = .ok (.invokevirtual 233, 3) := by decide +kernel
theorem dX12_merge_163 : decode cX12_merge 163 = .ok (.iinc 5 1, 3) := by decide +kernel
theorem dX12_merge_166 : decode cX12_merge 166 = .ok (.iinc 6 1, 3) := by decide +kernel
theorem dX12_merge_169 : decode cX12_merge 169 = .ok (.goto (-146), 3) := by decide +kernel
theorem dX12_merge_172 : decode cX12_merge 172 = .ok (.aload_n 0, 1) := by decide +kernel
theorem dX12_merge_173 : decode cX12_merge 173 = .ok (.iload 5, 2) := by decide +kernel
theorem dX12_merge_175 : decode cX12_merge 175 = .ok (.putfield 217, 3) := by decide +kernel
theorem dX12_merge_178 : decode cX12_merge 178 = .ok (.aload_n 0, 1) := by decide +kernel
theorem dX12_merge_179 : decode cX12_merge 179 = .ok (.getfield 47, 3) := by decide +kernel
theorem dX12_merge_182 : decode cX12_merge 182 = .ok (.iload 4, 2) := by decide +kernel
theorem dX12_merge_184 : decode cX12_merge 184 = .ok (.iload_n 1, 1) := by decide +kernel
theorem dX12_merge_185 : decode cX12_merge 185 = .ok (.iconst 1, 1) := by decide +kernel
theorem dX12_merge_186 : decode cX12_merge 186 = .ok (.iadd, 1) := by decide +kernel
theorem dX12_merge_187 : decode cX12_merge 187 = .ok (.iastore, 1) := by decide +kernel
theorem dX12_merge_188 : decode cX12_merge 188 = .ok (.aload_n 0, 1) := by decide +kernel
theorem dX12_merge_189 : decode cX12_merge 189 = .ok (.getfield 50, 3) := by decide +kernel
theorem dX12_merge_192 : decode cX12_merge 192 = .ok (.iload 4, 2) := by decide +kernel
theorem dX12_merge_194 : decode cX12_merge 194 = .ok (.iload_n 2, 1) := by decide +kernel
theorem dX12_merge_195 : decode cX12_merge 195 = .ok (.iastore, 1) := by decide +kernel
theorem dX12_merge_196 : decode cX12_merge 196 = .ok (.iconst 0, 1) := by decide +kernel
theorem dX12_merge_197 : decode cX12_merge 197 = .ok (.istore 6, 2) := by decide +kernel
theorem dX12_merge_199 : decode cX12_merge 199 = .ok (.iload 6, 2) := by decide +kernel
theorem dX12_merge_201 : decode cX12_merge 201 = .ok (.iload_n 2, 1) := by decide +kernel
theorem dX12_merge_202 : decode cX12_merge 202 = .ok (.if_icmp .ge 30, 3) := by decide +kernel
theorem dX12_merge_205 : decode cX12_merge 205 = .ok (.aload_n 0, 1) := by decide +kernel
theorem dX12_merge_206 : decode cX12_merge 206 = .ok (.getfield 54, 3) := by decide +kernel
theorem dX12_merge_209 : decode cX12_merge 209 = .ok (.sipush 400, 3) := by decide +kernel
theorem dX12_merge_212 : decode cX12_merge 212 = .ok (.iload 4, 2) := by decide +kernel
theorem dX12_merge_214 : decode cX12_merge 214 = .ok (.imul, 1) := by decide +kernel
theorem dX12_merge_215 : decode cX12_merge 215 = .ok (.iload 6, 2) := by decide +kernel
theorem dX12_merge_217 : decode cX12_merge 217 = .ok (.iadd, 1) := by decide +kernel
theorem dX12_merge_218 : decode cX12_merge 218 = .ok (.aload_n 0, 1) := by decide +kernel
theorem dX12_merge_219 : decode cX12_merge 219 = .ok (.getfield 103, 3) := by decide +kernel
theorem dX12_merge_222 : decode cX12_merge 222 = .ok (.iload 6, 2) := by decide +kernel
theorem dX12_merge_224 : decode cX12_merge 224 = .ok (.iaload, 1) := by decide +kernel
theorem dX12_merge_225 : decode cX12_merge 225 = .ok (.iastore, 1) := by decide +kernel
theorem dX12_merge_226 : decode cX12_merge 226 = .ok (.iinc 6 1, 3) := by decide +kernel
theorem dX12_merge_229 : decode cX12_merge 229 = .ok (.goto (-30), 3) := by decide +kernel
theorem dX12_merge_232 : decode cX12_merge 232 = .ok (.iload_n 2, 1) := by decide +kernel
theorem dX12_merge_233 : decode cX12_merge 233 = .ok (.ifCond .le 4, 3) := by decide +kernel
theorem dX12_merge_236 : decode cX12_merge 236 = .ok (.return_, 1) := by decide +kernel
theorem dX12_merge_237 : decode cX12_merge 237 = .ok (.iload 4, 2) := by decide +kernel
theorem dX12_merge_239 : decode cX12_merge 239 = .ok (.iconst 1, 1) := by decide +kernel
theorem dX12_merge_240 : decode cX12_merge 240 = .ok (.iadd, 1) := by decide +kernel
theorem dX12_merge_241 : decode cX12_merge 241 = .ok (.istore 6, 2) := by decide +kernel
theorem dX12_merge_243 : decode cX12_merge 243 = .ok (.iload 6, 2) := by decide +kernel
theorem dX12_merge_245 : decode cX12_merge 245 = .ok (.aload_n 0, 1) := by decide +kernel
theorem dX12_merge_246 : decode cX12_merge 246 = .ok (.getfield 217, 3) := by decide +kernel
theorem dX12_merge_249 : decode cX12_merge 249 = .ok (.if_icmp .ge 19, 3) := by decide +kernel
theorem dX12_merge_252 : decode cX12_merge 252 = .ok (.aload_n 0, 1) := by decide +kernel
theorem dX12_merge_253 : decode cX12_merge 253 = .ok (.iload 6, 2) := by decide +kernel
theorem dX12_merge_255 : decode cX12_merge 255 = .ok (.iload 6, 2) := by decide +kernel
theorem dX12_merge_257 : decode cX12_merge 257 = .ok (.iconst 1, 1) := by decide +kernel
theorem dX12_merge_258 : decode cX12_merge 258 = .ok (.isub, 1) := by decide +kernel
theorem dX12_merge_259 : decode cX12_merge 259 = .ok (.invokevirtual 233, 3) := by decide +kernel
theorem dX12_merge_262 : decode cX12_merge 262 = .ok (.iinc 6 1, 3) := by decide +kernel
theorem dX12_merge_265 : decode cX12_merge 265 = .ok (.goto (-22), 3) := by decide +kernel
theorem dX12_merge_268 : decode cX12_merge 268 = .ok (.aload_n 0, 1) := by decide +kernel
theorem dX12_merge_269 : decode cX12_merge 269 = .ok (.dup, 1) := by decide +kernel
theorem dX12_merge_270 : decode cX12_merge 270 = .ok (.getfield 217, 3) := by decide +kernel
theorem dX12_merge_273 : decode cX12_merge 273 = .ok (.iconst 1, 1) := by decide +kernel
theorem dX12_merge_274 : decode cX12_merge 274 = .ok (.isub, 1) := by decide +kernel
theorem dX12_merge_275 : decode cX12_merge 275 = .ok (.putfield 217, 3) := by decide +kernel
theorem dX12_merge_278 : decode cX12_merge 278 = .ok (.return_, 1) := by decide +kernel
theorem dX12_move_0 : decode cX12_move 0 = .ok (.iload_n 1, 1) := by decide +kernel
theorem dX12_move_1 : decode cX12_move 1 = .ok (.iload_n 2, 1) := by decide +kernel
theorem dX12_move_2 : decode cX12_move 2 = .ok (.if_icmp .ne 4, 3) := by decide +kernel
theorem dX12_move_5 : decode cX12_move 5 = .ok (.return_, 1) := by decide +kernel
theorem dX12_move_6 : decode cX12_move 6 = .ok (.aload_n 0, 1) := by decide +kernel
theorem dX12_move_7 : decode cX12_move 7 = .ok (.getfield 47, 3) := by decide +kernel
theorem dX12_move_10 : decode cX12_move 10 = .ok (.iload_n 2, 1) := by decide +kernel
theorem dX12_move_11 : decode cX12_move 11 = .ok (.aload_n 0, 1) := by decide +kernel
theorem dX12_move_12 : decode cX12_move 12 = .ok (.getfield 47, 3) := by decide +kernel
theorem dX12_move_15 : decode cX12_move 15 = .ok (.iload_n 1, 1) := by decide +kernel
theorem dX12_move_16 : decode cX12_move 16 = .ok (.iaload, 1) := by decide +kernel
theorem dX12_move_17 : decode cX12_move 17 = .ok (.iastore, 1) := by decide +kernel
theorem dX12_move_18 : decode cX12_move 18 = .ok (.aload_n 0, 1) := by decide +kernel
theorem dX12_move_19 : decode cX12_move 19 = .ok (.getfield 50, 3) := by decide +kernel
theorem dX12_move_22 : decode cX12_move 22 = .ok (.iload_n 2, 1) := by decide +kernel
theorem dX12_move_23 : decode cX12_move 23 = .ok (.aload_n 0, 1) := by decide +kernel
theorem dX12_move_24 : decode cX12_move 24 = .ok (.getfield 50, 3) := by decide +kernel
theorem dX12_move_27 : decode cX12_move 27 = .ok (.iload_n 1, 1) := by decide +kernel
theorem dX12_move_28 : decode cX12_move 28 = .ok (.iaload, 1) := by decide +kernel
theorem dX12_move_29 : decode cX12_move 29 = .ok (.iastore, 1) := by decide +kernel
theorem dX12_move_30 : decode cX12_move 30 = .ok (.iconst 0, 1) := by decide +kernel
theorem dX12_move_31 : decode cX12_move 31 = .ok (.istore_n 3, 1) := by decide +kernel
theorem dX12_move_32 : decode cX12_move 32 = .ok (.iload_n 3, 1) := by decide +kernel
theorem dX12_move_33 : decode cX12_move 33 = .ok (.aload_n 0, 1) := by decide +kernel
theorem dX12_move_34 : decode cX12_move 34 = .ok (.getfield 50, 3) := by decide +kernel
theorem dX12_move_37 : decode cX12_move 37 = .ok (.iload_n 1, 1) := by decide +kernel
theorem dX12_move_38 : decode cX12_move 38 = .ok (.iaload, 1) := by decide +kernel
theorem dX12_move_39 : decode cX12_move 39 = .ok (.if_icmp .ge 33, 3) := by decide +kernel
theorem dX12_move_42 : decode cX12_move 42 = .ok (.aload_n 0, 1) := by decide +kernel
theorem dX12_move_43 : decode cX12_move 43 = .ok (.getfield 54, 3) := by decide +kernel
theorem dX12_move_46 : decode cX12_move 46 = .ok (.sipush 400, 3) := by decide +kernel
theorem dX12_move_49 : decode cX12_move 49 = .ok (.iload_n 2, 1) := by decide +kernel
theorem dX12_move_50 : decode cX12_move 50 = .ok (.imul, 1) := by decide +kernel
theorem dX12_move_51 : decode cX12_move 51 = .ok (.iload_n 3, 1) := by decide +kernel
theorem dX12_move_52 : decode cX12_move 52 = .ok (.iadd, 1) := by decide +kernel
theorem dX12_move_53 : decode cX12_move 53 = .ok (.aload_n 0, 1) := by decide +kernel
theorem dX12_move_54 : decode cX12_move 54 = .ok (.getfield 54, 3) := by decide +kernel
theorem dX12_move_57 : decode cX12_move 57 = .ok (.sipush 400, 3) := by decide +kernel
theorem dX12_move_60 : decode cX12_move 60 = .ok (.iload_n 1, 1) := by decide +kernel
theorem dX12_move_61 : decode cX12_move 61 = .ok (.imul, 1) := by decide +kernel
theorem dX12_move_62 : decode cX12_move 62 = .ok (.iload_n 3, 1) := by decide +kernel
theorem dX12_move_63 : decode cX12_move 63 = .ok (.iadd, 1) := by decide +kernel
theorem dX12_move_64 : decode cX12_move 64 = .ok (.iaload, 1) := by decide +kernel
theorem dX12_move_65 : decode cX12_move 65 = .ok (.iastore, 1) := by decide +kernel
theorem dX12_move_66 : decode cX12_move 66 = .ok (.iinc 3 1, 3) := by decide +kernel
theorem dX12_move_69 : decode cX12_move 69 = .ok (.goto (-37), 3) := by decide +kernel
theorem dX12_move_72 : decode cX12_move 72 = .ok (.return_, 1) := by decide +kernel
theorem dX12_isView_0 : decode cX12_isView 0 = .ok (.iload_n 1, 1) := by decide +kernel
theorem dX12_isView_1 : decode cX12_isView 1 = .ok (.iconst 0, 1) := by decide +kernel
theorem dX12_isView_2 : decode cX12_isView 2 = .ok (.iconst 3, 1) := by decide +kernel
theorem dX12_isView_3 : decode cX12_isView 3 = .ok (.invokestatic 164, 3) := by decide +kernel
theorem dX12_isView_6 : decode cX12_isView 6 = .ok (.ifCond .eq 16, 3) := by decide +kernel
theorem dX12_isView_9 : decode cX12_isView 9 = .ok (.aload_n 0, 1) := by decide +kernel
theorem dX12_isView_10 : decode cX12_isView 10 = .ok (.getfield 57, 3) := by decide +kernel
theorem dX12_isView_13 : decode cX12_isView 13 = .ok (.iload_n 1, 1) := by decide +kernel
theorem dX12_isView_14 : decode cX12_isView 14 = .ok (.baload, 1) := by decide +kernel
theorem dX12_isView_15 : decode cX12_isView 15 = .ok (.ifCond .eq 7, 3) := by decide +kernel
theorem dX12_isView_18 : decode cX12_isView 18 = .ok (.iconst 1, 1) := by decide +kernel
theorem dX12_isView_19 : decode cX12_isView 19 = .ok (.goto 4, 3) := by decide +kernel
theorem dX12_isView_22 : decode cX12_isView 22 = .ok (.iconst 0, 1) := by decide +kernel
theorem dX12_isView_23 : decode cX12_isView 23 = .ok (.ireturn, 1) := by decide +kernel
theorem dX12_open_0 : decode cX12_open 0 = .ok (.iconst 0, 1) := by decide +kernel
theorem dX12_open_1 : decode cX12_open 1 = .ok (.istore_n 1, 1) := by decide +kernel
theorem dX12_open_2 : decode cX12_open 2 = .ok (.iload_n 1, 1) := by decide +kernel
theorem dX12_open_3 : decode cX12_open 3 = .ok (.iconst 4, 1) := by decide +kernel
theorem dX12_open_4 : decode cX12_open 4 = .ok (.if_icmp .ge 18, 3) := by decide +kernel
theorem dX12_open_7 : decode cX12_open 7 = .ok (.aload_n 0, 1) := by decide +kernel
theorem dX12_open_8 : decode cX12_open 8 = .ok (.getfield 57, 3) := by decide +kernel
theorem dX12_open_11 : decode cX12_open 11 = .ok (.iload_n 1, 1) := by decide +kernel
theorem dX12_open_12 : decode cX12_open 12 = .ok (.baload, 1) := by decide +kernel
theorem dX12_open_13 : decode cX12_open 13 = .ok (.ifCond .eq 9, 3) := by decide +kernel
theorem dX12_open_16 : decode cX12_open 16 = .ok (.iinc 1 1, 3) := by decide +kernel
theorem dX12_open_19 : decode cX12_open 19 = .ok (.goto (-17), 3) := by decide +kernel
theorem dX12_open_22 : decode cX12_open 22 = .ok (.iload_n 1, 1) := by decide +kernel
theorem dX12_open_23 : decode cX12_open 23 = .ok (.iconst 4, 1) := by decide +kernel
theorem dX12_open_24 : decode cX12_open 24 = .ok (.if_icmp .ne 6, 3) := by decide +kernel
theorem dX12_open_27 : decode cX12_open 27 = .ok (.bipush (-3), 2) := by decide +kernel
theorem dX12_open_29 : decode cX12_open 29 = .ok (.ireturn, 1) := by decide +kernel
theorem dX12_open_30 : decode cX12_open 30 = .ok (.aload_n 0, 1) := by decide +kernel
theorem dX12_open_31 : decode cX12_open 31 = .ok (.getfield 57, 3) := by decide +kernel
theorem dX12_open_34 : decode cX12_open 34 = .ok (.iload_n 1, 1) := by decide +kernel
theorem dX12_open_35 : decode cX12_open 35 = .ok (.iconst 1, 1) := by decide +kernel
theorem dX12_open_36 : decode cX12_open 36 = .ok (.bastore, 1) := by decide +kernel
theorem dX12_open_37 : decode cX12_open 37 = .ok (.aload_n 0, 1) := by decide +kernel
theorem dX12_open_38 : decode cX12_open 38 = .ok (.getfield 60, 3) := by decide +kernel
theorem dX12_open_41 : decode cX12_open 41 = .ok (.iload_n 1, 1) := by decide +kernel
theorem dX12_open_42 : decode cX12_open 42 = .ok (.aload_n 0, 1) := by decide +kernel
theorem dX12_open_43 : decode cX12_open 43 = .ok (.getfield 217, 3) := by decide +kernel
theorem dX12_open_46 : decode cX12_open 46 = .ok (.iastore, 1) := by decide +kernel
theorem dX12_open_47 : decode cX12_open 47 = .ok (.aload_n 0, 1) := by decide +kernel
theorem dX12_open_48 : decode cX12_open 48 = .ok (.getfield 63, 3) := by decide +kernel
theorem dX12_open_51 : decode cX12_open 51 = .ok (.iload_n 1, 1) := by decide +kernel
theorem dX12_open_52 : decode cX12_open 52 = .ok (.iconst 0, 1) := by decide +kernel
theorem dX12_open_53 : decode cX12_open 53 = .ok (.iastore, 1) := by decide +kernel
theorem dX12_open_54 : decode cX12_open 54 = .ok (.iconst 0, 1) := by decide +kernel
theorem dX12_open_55 : decode cX12_open 55 = .ok (.istore_n 2, 1) := by decide +kernel
theorem dX12_open_56 : decode cX12_open 56 = .ok (.iload_n 2, 1) := by decide +kernel
theorem dX12_open_57 : decode cX12_open 57 = .ok (.aload_n 0, 1) := by decide +kernel
theorem dX12_open_58 : decode cX12_open 58 = .ok (.getfield 217, 3) := by decide +kernel
theorem dX12_open_61 : decode cX12_open 61 = .ok (.if_icmp .ge 94, 3) := by decide +kernel
theorem dX12_open_64 : decode cX12_open 64 = .ok (.iconst 0, 1) := by decide +kernel
theorem dX12_open_65 : decode cX12_open 65 = .ok (.istore_n 3, 1) := by decide +kernel
theorem dX12_open_66 : decode cX12_open 66 = .ok (.iload_n 3, 1) := by decide +kernel
theorem dX12_open_67 : decode cX12_open 67 = .ok (.aload_n 0, 1) := by decide +kernel
theorem dX12_open_68 : decode cX12_open 68 = .ok (.getfield 50, 3) := by decide +kernel
theorem dX12_open_71 : decode cX12_open 71 = .ok (.iload_n 2, 1) := by decide +kernel
theorem dX12_open_72 : decode cX12_open 72 = .ok (.iaload, 1) := by decide +kernel
theorem dX12_open_73 : decode cX12_open 73 = .ok (.if_icmp .ge 76, 3) := by decide +kernel
theorem dX12_open_76 : decode cX12_open 76 = .ok (.aload_n 0, 1) := by decide +kernel
theorem dX12_open_77 : decode cX12_open 77 = .ok (.getfield 54, 3) := by decide +kernel
theorem dX12_open_80 : decode cX12_open 80 = .ok (.sipush 400, 3) := by decide +kernel
theorem dX12_open_83 : decode cX12_open 83 = .ok (.iload_n 2, 1) := by decide +kernel
theorem dX12_open_84 : decode cX12_open 84 = .ok (.imul, 1) := by decide +kernel
theorem dX12_open_85 : decode cX12_open 85 = .ok (.iload_n 3, 1) := by decide +kernel
theorem dX12_open_86 : decode cX12_open 86 = .ok (.iadd, 1) := by decide +kernel
theorem dX12_open_87 : decode cX12_open 87 = .ok (.iaload, 1) := by decide +kernel
theorem dX12_open_88 : decode cX12_open 88 = .ok (.istore 4, 2) := by decide +kernel
theorem dX12_open_90 : decode cX12_open 90 = .ok (.aload_n 0, 1) := by decide +kernel
theorem dX12_open_91 : decode cX12_open 91 = .ok (.getfield 66, 3) := by decide +kernel
theorem dX12_open_94 : decode cX12_open 94 = .ok (.sipush 400, 3) := by decide +kernel
theorem dX12_open_97 : decode cX12_open 97 = .ok (.iload_n 1, 1) := by decide +kernel
theorem dX12_open_98 : decode cX12_open 98 = .ok (.imul, 1) := by decide +kernel
theorem dX12_open_99 : decode cX12_open 99 = .ok (.aload_n 0, 1) := by decide +kernel
theorem dX12_open_100 : decode cX12_open 100 = .ok (.getfield 63, 3) := by decide +kernel
theorem dX12_open_103 : decode cX12_open 103 = .ok (.iload_n 1, 1) := by decide +kernel
theorem dX12_open_104 : decode cX12_open 104 = .ok (.iaload, 1) := by decide +kernel
theorem dX12_open_105 : decode cX12_open 105 = .ok (.iadd, 1) := by decide +kernel
theorem dX12_open_106 : decode cX12_open 106 = .ok (.iload 4, 2) := by decide +kernel
theorem dX12_open_108 : decode cX12_open 108 = .ok (.iastore, 1) := by decide +kernel
theorem dX12_open_109 : decode cX12_open 109 = .ok (.aload_n 0, 1) := by decide +kernel
theorem dX12_open_110 : decode cX12_open 110 = .ok (.getfield 69, 3) := by decide +kernel
theorem dX12_open_113 : decode cX12_open 113 = .ok (.sipush 400, 3) := by decide +kernel
theorem dX12_open_116 : decode cX12_open 116 = .ok (.iload_n 1, 1) := by decide +kernel
theorem dX12_open_117 : decode cX12_open 117 = .ok (.imul, 1) := by decide +kernel
theorem dX12_open_118 : decode cX12_open 118 = .ok (.aload_n 0, 1) := by decide +kernel
theorem dX12_open_119 : decode cX12_open 119 = .ok (.getfield 63, 3) := by decide +kernel
theorem dX12_open_122 : decode cX12_open 122 = .ok (.iload_n 1, 1) := by decide +kernel
theorem dX12_open_123 : decode cX12_open 123 = .ok (.iaload, 1) := by decide +kernel
theorem dX12_open_124 : decode cX12_open 124 = .ok (.iadd, 1) := by decide +kernel
theorem dX12_open_125 : decode cX12_open 125 = .ok (.aload_n 0, 1) := by decide +kernel
theorem dX12_open_126 : decode cX12_open 126 = .ok (.getfield 23, 3) := by decide +kernel
theorem dX12_open_129 : decode cX12_open 129 = .ok (.iload 4, 2) := by decide +kernel
theorem dX12_open_131 : decode cX12_open 131 = .ok (.baload, 1) := by decide +kernel
theorem dX12_open_132 : decode cX12_open 132 = .ok (.bastore, 1) := by decide +kernel
theorem dX12_open_133 : decode cX12_open 133 = .ok (.aload_n 0, 1) := by decide +kernel
theorem dX12_open_134 : decode cX12_open 134 = .ok (.getfield 63, 3) := by decide +kernel
theorem dX12_open_137 : decode cX12_open 137 = .ok (.iload_n 1, 1) := by decide +kernel
theorem dX12_open_138 : decode cX12_open 138 = .ok (.dup2, 1) := by decide +kernel
theorem dX12_open_139 : decode cX12_open 139 = .ok (.iaload, 1) := by decide +kernel
theorem dX12_open_140 : decode cX12_open 140 = .ok (.iconst 1, 1) := by decide +kernel
theorem dX12_open_141 : decode cX12_open 141 = .ok (.iadd, 1) := by decide +kernel
theorem dX12_open_142 : decode cX12_open 142 = .ok (.iastore, 1) := by decide +kernel
theorem dX12_open_143 : decode cX12_open 143 = .ok (.iinc 3 1, 3) := by decide +kernel
theorem dX12_open_146 : decode cX12_open 146 = .ok (.goto (-80), 3) := by decide +kernel
theorem dX12_open_149 : decode cX12_open 149 = .ok (.iinc 2 1, 3) := by decide +kernel
theorem dX12_open_152 : decode cX12_open 152 = .ok (.goto (-96), 3) := by decide +kernel
theorem dX12_open_155 : decode cX12_open 155 = .ok (.iload_n 1, 1) := by decide +kernel
theorem dX12_open_156 : decode cX12_open 156 = .ok (.ireturn, 1) := by decide +kernel
theorem dX12_close_0 : decode cX12_close 0 = .ok (.aload_n 0, 1) := by decide +kernel
theorem dX12_close_1 : decode cX12_close 1 = .ok (.iload_n 1, 1) := by decide +kernel
theorem dX12_close_2 : decode cX12_close 2 = .ok (.invokevirtual 236, 3) := by decide +kernel
theorem dX12_close_5 : decode cX12_close 5 = .ok (.ifCond .ne 6, 3) := by decide +kernel
theorem dX12_close_8 : decode cX12_close 8 = .ok (.bipush (-2), 2) := by decide +kernel
theorem dX12_close_10 : decode cX12_close 10 = .ok (.ireturn, 1) := by decide +kernel
theorem dX12_close_11 : decode cX12_close 11 = .ok (.aload_n 0, 1) := by decide +kernel
theorem dX12_close_12 : decode cX12_close 12 = .ok (.getfield 57, 3) := by decide +kernel
theorem dX12_close_15 : decode cX12_close 15 = .ok (.iload_n 1, 1) := by decide +kernel
theorem dX12_close_16 : decode cX12_close 16 = .ok (.iconst 0, 1) := by decide +kernel
theorem dX12_close_17 : decode cX12_close 17 = .ok (.bastore, 1) := by decide +kernel
theorem dX12_close_18 : decode cX12_close 18 = .ok (.iconst 0, 1) := by decide +kernel
theorem dX12_close_19 : decode cX12_close 19 = .ok (.ireturn, 1) := by decide +kernel
theorem dX12_read_0 : decode cX12_read 0 = .ok (.aload_n 0, 1) := by decide +kernel
theorem dX12_read_1 : decode cX12_read 1 = .ok (.getfield 239, 3) := by decide +kernel
theorem dX12_read_4 : decode cX12_read 4 = .ok (.aload_n 0, 1) := by decide +kernel
theorem dX12_read_5 : decode cX12_read 5 = .ok (.getfield 242, 3) := by decide +kernel
theorem dX12_read_8 : decode cX12_read 8 = .ok (.if_icmp .ge 30, 3) := by decide +kernel
theorem dX12_read_11 : decode cX12_read 11 = .ok (.aload_n 0, 1) := by decide +kernel
theorem dX12_read_12 : decode cX12_read 12 = .ok (.getfield 7, 3) := by decide +kernel
theorem dX12_read_15 : decode cX12_read 15 = .ok (.aload_n 0, 1) := by decide +kernel
theorem dX12_read_16 : decode cX12_read 16 = .ok (.getfield 239, 3) := by decide +kernel
theorem dX12_read_19 : decode cX12_read 19 = .ok (.iaload, 1) := by decide +kernel
theorem dX12_read_20 : decode cX12_read 20 = .ok (.bipush 32, 2) := by decide +kernel
theorem dX12_read_22 : decode cX12_read 22 = .ok (.if_icmp .ne 16, 3) := by decide +kernel
theorem dX12_read_25 : decode cX12_read 25 = .ok (.aload_n 0, 1) := by decide +kernel
theorem dX12_read_26 : decode cX12_read 26 = .ok (.dup, 1) := by decide +kernel
theorem dX12_read_27 : decode cX12_read 27 = .ok (.getfield 239, 3) := by decide +kernel
theorem dX12_read_30 : decode cX12_read 30 = .ok (.iconst 1, 1) := by decide +kernel
theorem dX12_read_31 : decode cX12_read 31 = .ok (.iadd, 1) := by decide +kernel
theorem dX12_read_32 : decode cX12_read 32 = .ok (.putfield 239, 3) := by decide +kernel
theorem dX12_read_35 : decode cX12_read 35 = .ok (.goto (-35), 3) := by decide +kernel
theorem dX12_read_38 : decode cX12_read 38 = .ok (.aload_n 0, 1) := by decide +kernel
theorem dX12_read_39 : decode cX12_read 39 = .ok (.aload_n 0, 1) := by decide +kernel
theorem dX12_read_40 : decode cX12_read 40 = .ok (.getfield 239, 3) := by decide +kernel
theorem dX12_read_43 : decode cX12_read 43 = .ok (.putfield 245, 3) := by decide +kernel
theorem dX12_read_46 : decode cX12_read 46 = .ok (.aload_n 0, 1) := by decide +kernel
theorem dX12_read_47 : decode cX12_read 47 = .ok (.iconst 0, 1) := by decide +kernel
theorem dX12_read_48 : decode cX12_read 48 = .ok (.putfield 248, 3) := by decide +kernel
theorem dX12_read_51 : decode cX12_read 51 = .ok (.aload_n 0, 1) := by decide +kernel
theorem dX12_read_52 : decode cX12_read 52 = .ok (.getfield 239, 3) := by decide +kernel
theorem dX12_read_55 : decode cX12_read 55 = .ok (.aload_n 0, 1) := by decide +kernel
theorem dX12_read_56 : decode cX12_read 56 = .ok (.getfield 242, 3) := by decide +kernel
theorem dX12_read_59 : decode cX12_read 59 = .ok (.if_icmp .ne 9, 3) := by decide +kernel
theorem dX12_read_62 : decode cX12_read 62 = .ok (.aload_n 0, 1) := by decide +kernel
theorem dX12_read_63 : decode cX12_read 63 = .ok (.iconst 0, 1) := by decide +kernel
theorem dX12_read_64 : decode cX12_read 64 = .ok (.putfield 251, 3) := by decide +kernel
theorem dX12_read_67 : decode cX12_read 67 = .ok (.return_, 1) := by decide +kernel
theorem dX12_read_68 : decode cX12_read 68 = .ok (.aload_n 0, 1) := by decide +kernel
theorem dX12_read_69 : decode cX12_read 69 = .ok (.getfield 7, 3) := by decide +kernel
theorem dX12_read_72 : decode cX12_read 72 = .ok (.aload_n 0, 1) := by decide +kernel
theorem dX12_read_73 : decode cX12_read 73 = .ok (.getfield 239, 3) := by decide +kernel
theorem dX12_read_76 : decode cX12_read 76 = .ok (.iaload, 1) := by decide +kernel
theorem dX12_read_77 : decode cX12_read 77 = .ok (.invokestatic 185, 3) := by decide +kernel
theorem dX12_read_80 : decode cX12_read 80 = .ok (.ifCond .eq 61, 3) := by decide +kernel
theorem dX12_read_83 : decode cX12_read 83 = .ok (.aload_n 0, 1) := by decide +kernel
theorem dX12_read_84 : decode cX12_read 84 = .ok (.getfield 239, 3) := by decide +kernel
theorem dX12_read_87 : decode cX12_read 87 = .ok (.aload_n 0, 1) := by decide +kernel
theorem dX12_read_88 : decode cX12_read 88 = .ok (.getfield 242, 3) := by decide +kernel
theorem dX12_read_91 : decode cX12_read 91 = .ok (.if_icmp .ge 31, 3) := by decide +kernel
theorem dX12_read_94 : decode cX12_read 94 = .ok (.aload_n 0, 1) := by decide +kernel
theorem dX12_read_95 : decode cX12_read 95 = .ok (.getfield 7, 3) := by decide +kernel
theorem dX12_read_98 : decode cX12_read 98 = .ok (.aload_n 0, 1) := by decide +kernel
theorem dX12_read_99 : decode cX12_read 99 = .ok (.getfield 239, 3) := by decide +kernel
theorem dX12_read_102 : decode cX12_read 102 = .ok (.iaload, 1) := by decide +kernel
theorem dX12_read_103 : decode cX12_read 103 = .ok (.invokestatic 185, 3) := by decide +kernel
theorem dX12_read_106 : decode cX12_read 106 = .ok (.ifCond .eq 16, 3) := by decide +kernel
theorem dX12_read_109 : decode cX12_read 109 = .ok (.aload_n 0, 1) := by decide +kernel
theorem dX12_read_110 : decode cX12_read 110 = .ok (.dup, 1) := by decide +kernel
theorem dX12_read_111 : decode cX12_read 111 = .ok (.getfield 239, 3) := by decide +kernel
theorem dX12_read_114 : decode cX12_read 114 = .ok (.iconst 1, 1) := by decide +kernel
theorem dX12_read_115 : decode cX12_read 115 = .ok (.iadd, 1) := by decide +kernel
theorem dX12_read_116 : decode cX12_read 116 = .ok (.putfield 239, 3) := by decide +kernel
theorem dX12_read_119 : decode cX12_read 119 = .ok (.goto (-36), 3) := by decide +kernel
theorem dX12_read_122 : decode cX12_read 122 = .ok (.aload_n 0, 1) := by decide +kernel
theorem dX12_read_123 : decode cX12_read 123 = .ok (.iconst 1, 1) := by decide +kernel
theorem dX12_read_124 : decode cX12_read 124 = .ok (.putfield 251, 3) := by decide +kernel
theorem dX12_read_127 : decode cX12_read 127 = .ok (.aload_n 0, 1) := by decide +kernel
theorem dX12_read_128 : decode cX12_read 128 = .ok (.aload_n 0, 1) := by decide +kernel
theorem dX12_read_129 : decode cX12_read 129 = .ok (.getfield 239, 3) := by decide +kernel
theorem dX12_read_132 : decode cX12_read 132 = .ok (.aload_n 0, 1) := by decide +kernel
theorem dX12_read_133 : decode cX12_read 133 = .ok (.getfield 245, 3) := by decide +kernel
theorem dX12_read_136 : decode cX12_read 136 = .ok (.isub, 1) := by decide +kernel
theorem dX12_read_137 : decode cX12_read 137 = .ok (.putfield 248, 3) := by decide +kernel
theorem dX12_read_140 : decode cX12_read 140 = .ok (.return_, 1) := by decide +kernel
theorem dX12_read_141 : decode cX12_read 141 = .ok (.aload_n 0, 1) := by decide +kernel
theorem dX12_read_142 : decode cX12_read 142 = .ok (.getfield 7, 3) := by decide +kernel
theorem dX12_read_145 : decode cX12_read 145 = .ok (.aload_n 0, 1) := by decide +kernel
theorem dX12_read_146 : decode cX12_read 146 = .ok (.getfield 239, 3) := by decide +kernel
theorem dX12_read_149 : decode cX12_read 149 = .ok (.iaload, 1) := by decide +kernel
theorem dX12_read_150 : decode cX12_read 150 = .ok (.istore_n 1, 1) := by decide +kernel
theorem dX12_read_151 : decode cX12_read 151 = .ok (.aload_n 0, 1) := by decide +kernel
theorem dX12_read_152 : decode cX12_read 152 = .ok (.dup, 1) := by decide +kernel
theorem dX12_read_153 : decode cX12_read 153 = .ok (.getfield 239, 3) := by decide +kernel
theorem dX12_read_156 : decode cX12_read 156 = .ok (.iconst 1, 1) := by decide +kernel
theorem dX12_read_157 : decode cX12_read 157 = .ok (.iadd, 1) := by decide +kernel
theorem dX12_read_158 : decode cX12_read 158 = .ok (.putfield 239, 3) := by decide +kernel
theorem dX12_read_161 : decode cX12_read 161 = .ok (.iload_n 1, 1) := by decide +kernel
theorem dX12_read_162 : decode cX12_read 162 = .ok (.bipush 40, 2) := by decide +kernel
theorem dX12_read_164 : decode cX12_read 164 = .ok (.if_icmp .eq 63, 3) := by decide +kernel
theorem dX12_read_167 : decode cX12_read 167 = .ok (.iload_n 1, 1) := by decide +kernel
theorem dX12_read_168 : decode cX12_read 168 = .ok (.bipush 41, 2) := by decide +kernel
theorem dX12_read_170 : decode cX12_read 170 = .ok (.if_icmp .eq 57, 3) := by decide +kernel
theorem dX12_read_173 : decode cX12_read 173 = .ok (.iload_n 1, 1) := by decide +kernel
theorem dX12_read_174 : decode cX12_read 174 = .ok (.bipush 124, 2) := by decide +kernel
theorem dX12_read_176 : decode cX12_read 176 = .ok (.if_icmp .eq 51, 3) := by decide +kernel
theorem dX12_read_179 : decode cX12_read 179 = .ok (.iload_n 1, 1) := by decide +kernel
theorem dX12_read_180 : decode cX12_read 180 = .ok (.bipush 45, 2) := by decide +kernel
theorem dX12_read_182 : decode cX12_read 182 = .ok (.if_icmp .eq 45, 3) := by decide +kernel
theorem dX12_read_185 : decode cX12_read 185 = .ok (.iload_n 1, 1) := by decide +kernel
theorem dX12_read_186 : decode cX12_read 186 = .ok (.bipush 42, 2) := by decide +kernel
theorem dX12_read_188 : decode cX12_read 188 = .ok (.if_icmp .eq 39, 3) := by decide +kernel
theorem dX12_read_191 : decode cX12_read 191 = .ok (.iload_n 1, 1) := by decide +kernel
theorem dX12_read_192 : decode cX12_read 192 = .ok (.bipush 34, 2) := by decide +kernel
theorem dX12_read_194 : decode cX12_read 194 = .ok (.if_icmp .eq 33, 3) := by decide +kernel
theorem dX12_read_197 : decode cX12_read 197 = .ok (.iload_n 1, 1) := by decide +kernel
theorem dX12_read_198 : decode cX12_read 198 = .ok (.bipush 58, 2) := by decide +kernel
theorem dX12_read_200 : decode cX12_read 200 = .ok (.if_icmp .eq 27, 3) := by decide +kernel
theorem dX12_read_203 : decode cX12_read 203 = .ok (.iload_n 1, 1) := by decide +kernel
theorem dX12_read_204 : decode cX12_read 204 = .ok (.bipush 126, 2) := by decide +kernel
theorem dX12_read_206 : decode cX12_read 206 = .ok (.if_icmp .eq 21, 3) := by decide +kernel
theorem dX12_read_209 : decode cX12_read 209 = .ok (.iload_n 1, 1) := by decide +kernel
theorem dX12_read_210 : decode cX12_read 210 = .ok (.bipush 94, 2) := by decide +kernel
theorem dX12_read_212 : decode cX12_read 212 = .ok (.if_icmp .eq 15, 3) := by decide +kernel
theorem dX12_read_215 : decode cX12_read 215 = .ok (.iload_n 1, 1) := by decide +kernel
theorem dX12_read_216 : decode cX12_read 216 = .ok (.bipush 91, 2) := by decide +kernel
theorem dX12_read_218 : decode cX12_read 218 = .ok (.if_icmp .eq 9, 3) := by decide +kernel
theorem dX12_read_221 : decode cX12_read 221 = .ok (.iload_n 1, 1) := by decide +kernel
theorem dX12_read_222 : decode cX12_read 222 = .ok (.bipush 93, 2) := by decide +kernel
theorem dX12_read_224 : decode cX12_read 224 = .ok (.if_icmp .ne 7, 3) := by decide +kernel
theorem dX12_read_227 : decode cX12_read 227 = .ok (.iconst 1, 1) := by decide +kernel
theorem dX12_read_228 : decode cX12_read 228 = .ok (.goto 4, 3) := by decide +kernel
theorem dX12_read_231 : decode cX12_read 231 = .ok (.iconst 0, 1) := by decide +kernel
theorem dX12_read_232 : decode cX12_read 232 = .ok (.istore_n 2, 1) := by decide +kernel
theorem dX12_read_233 : decode cX12_read 233 = .ok (.aload_n 0, 1) := by decide +kernel
theorem dX12_read_234 : decode cX12_read 234 = .ok (.iload_n 2, 1) := by decide +kernel
theorem dX12_read_235 : decode cX12_read 235 = .ok (.ifCond .eq 7, 3) := by decide +kernel
theorem dX12_read_238 : decode cX12_read 238 = .ok (.iload_n 1, 1) := by decide +kernel
theorem dX12_read_239 : decode cX12_read 239 = .ok (.goto 4, 3) := by decide +kernel
theorem dX12_read_242 : decode cX12_read 242 = .ok (.iconst 2, 1) := by decide +kernel
theorem dX12_read_243 : decode cX12_read 243 = .ok (.putfield 251, 3) := by decide +kernel
theorem dX12_read_246 : decode cX12_read 246 = .ok (.return_, 1) := by decide +kernel
theorem dX12_fails_0 : decode cX12_fails 0 = .ok (.aload_n 0, 1) := by decide +kernel
theorem dX12_fails_1 : decode cX12_fails 1 = .ok (.getfield 254, 3) := by decide +kernel
theorem dX12_fails_4 : decode cX12_fails 4 = .ok (.iconst (-1), 1) := by decide +kernel
theorem dX12_fails_5 : decode cX12_fails 5 = .ok (.if_icmp .ne 11, 3) := by decide +kernel
theorem dX12_fails_8 : decode cX12_fails 8 = .ok (.aload_n 0, 1) := by decide +kernel
theorem dX12_fails_9 : decode cX12_fails 9 = .ok (.aload_n 0, 1) := by decide +kernel
theorem dX12_fails_10 : decode cX12_fails 10 = .ok (.getfield 245, 3) := by decide +kernel
theorem dX12_fails_13 : decode cX12_fails 13 = .ok (.putfield 254, 3) := by decide +kernel
theorem dX12_fails_16 : decode cX12_fails 16 = .ok (.iconst 0, 1) := by decide +kernel
theorem dX12_fails_17 : decode cX12_fails 17 = .ok (.ireturn, 1) := by decide +kernel
theorem dX12_isField_0 : decode cX12_isField 0 = .ok (.aload_n 0, 1) := by decide +kernel
theorem dX12_isField_1 : decode cX12_isField 1 = .ok (.getfield 248, 3) := by decide +kernel
theorem dX12_isField_4 : decode cX12_isField 4 = .ok (.iconst 5, 1) := by decide +kernel
theorem dX12_isField_5 : decode cX12_isField 5 = .ok (.if_icmp .ne 85, 3) := by decide +kernel
theorem dX12_isField_8 : decode cX12_isField 8 = .ok (.aload_n 0, 1) := by decide +kernel
theorem dX12_isField_9 : decode cX12_isField 9 = .ok (.getfield 7, 3) := by decide +kernel
theorem dX12_isField_12 : decode cX12_isField 12 = .ok (.aload_n 0, 1) := by decide +kernel
theorem dX12_isField_13 : decode cX12_isField 13 = .ok (.getfield 245, 3) := by decide +kernel
theorem dX12_isField_16 : decode cX12_isField 16 = .ok (.iaload, 1) := by decide +kernel
theorem dX12_isField_17 : decode cX12_isField 17 = .ok (.bipush 116, 2) := by decide +kernel
theorem dX12_isField_19 : decode cX12_isField 19 = .ok (.if_icmp .ne 71, 3) := by decide +kernel
theorem dX12_isField_22 : decode cX12_isField 22 = .ok (.aload_n 0, 1) := by decide +kernel
theorem dX12_isField_23 : decode cX12_isField 23 = .ok (.getfield 7, 3) := by decide +kernel
theorem dX12_isField_26 : decode cX12_isField 26 = .ok (.aload_n 0, 1) := by decide +kernel
theorem dX12_isField_27 : decode cX12_isField 27 = .ok (.getfield 245, 3) := by decide +kernel
theorem dX12_isField_30 : decode cX12_isField 30 = .ok (.iconst 1, 1) := by decide +kernel
theorem dX12_isField_31 : decode cX12_isField 31 = .ok (.iadd, 1) := by decide +kernel
theorem dX12_isField_32 : decode cX12_isField 32 = .ok (.iaload, 1) := by decide +kernel
theorem dX12_isField_33 : decode cX12_isField 33 = .ok (.bipush 105, 2) := by decide +kernel
theorem dX12_isField_35 : decode cX12_isField 35 = .ok (.if_icmp .ne 55, 3) := by decide +kernel
theorem dX12_isField_38 : decode cX12_isField 38 = .ok (.aload_n 0, 1) := by decide +kernel
theorem dX12_isField_39 : decode cX12_isField 39 = .ok (.getfield 7, 3) := by decide +kernel
theorem dX12_isField_42 : decode cX12_isField 42 = .ok (.aload_n 0, 1) := by decide +kernel
theorem dX12_isField_43 : decode cX12_isField 43 = .ok (.getfield 245, 3) := by decide +kernel
theorem dX12_isField_46 : decode cX12_isField 46 = .ok (.iconst 2, 1) := by decide +kernel
theorem dX12_isField_47 : decode cX12_isField 47 = .ok (.iadd, 1) := by decide +kernel
theorem dX12_isField_48 : decode cX12_isField 48 = .ok (.iaload, 1) := by decide +kernel
theorem dX12_isField_49 : decode cX12_isField 49 = .ok (.bipush 116, 2) := by decide +kernel
theorem dX12_isField_51 : decode cX12_isField 51 = .ok (.if_icmp .ne 39, 3) := by decide +kernel
theorem dX12_isField_54 : decode cX12_isField 54 = .ok (.aload_n 0, 1) := by decide +kernel
theorem dX12_isField_55 : decode cX12_isField 55 = .ok (.getfield 7, 3) := by decide +kernel
theorem dX12_isField_58 : decode cX12_isField 58 = .ok (.aload_n 0, 1) := by decide +kernel
theorem dX12_isField_59 : decode cX12_isField 59 = .ok (.getfield 245, 3) := by decide +kernel
theorem dX12_isField_62 : decode cX12_isField 62 = .ok (.iconst 3, 1) := by decide +kernel
theorem dX12_isField_63 : decode cX12_isField 63 = .ok (.iadd, 1) := by decide +kernel
theorem dX12_isField_64 : decode cX12_isField 64 = .ok (.iaload, 1) := by decide +kernel
theorem dX12_isField_65 : decode cX12_isField 65 = .ok (.bipush 108, 2) := by decide +kernel
theorem dX12_isField_67 : decode cX12_isField 67 = .ok (.if_icmp .ne 23, 3) := by decide +kernel
theorem dX12_isField_70 : decode cX12_isField 70 = .ok (.aload_n 0, 1) := by decide +kernel
theorem dX12_isField_71 : decode cX12_isField 71 = .ok (.getfield 7, 3) := by decide +kernel
theorem dX12_isField_74 : decode cX12_isField 74 = .ok (.aload_n 0, 1) := by decide +kernel
theorem dX12_isField_75 : decode cX12_isField 75 = .ok (.getfield 245, 3) := by decide +kernel
theorem dX12_isField_78 : decode cX12_isField 78 = .ok (.iconst 4, 1) := by decide +kernel
theorem dX12_isField_79 : decode cX12_isField 79 = .ok (.iadd, 1) := by decide +kernel
theorem dX12_isField_80 : decode cX12_isField 80 = .ok (.iaload, 1) := by decide +kernel
theorem dX12_isField_81 : decode cX12_isField 81 = .ok (.bipush 101, 2) := by decide +kernel
theorem dX12_isField_83 : decode cX12_isField 83 = .ok (.if_icmp .ne 7, 3) := by decide +kernel
theorem dX12_isField_86 : decode cX12_isField 86 = .ok (.iconst 1, 1) := by decide +kernel
theorem dX12_isField_87 : decode cX12_isField 87 = .ok (.goto 4, 3) := by decide +kernel
theorem dX12_isField_90 : decode cX12_isField 90 = .ok (.iconst 0, 1) := by decide +kernel
theorem dX12_isField_91 : decode cX12_isField 91 = .ok (.istore_n 1, 1) := by decide +kernel
theorem dX12_isField_92 : decode cX12_isField 92 = .ok (.aload_n 0, 1) := by decide +kernel
theorem dX12_isField_93 : decode cX12_isField 93 = .ok (.getfield 248, 3) := by decide +kernel
theorem dX12_isField_96 : decode cX12_isField 96 = .ok (.iconst 4, 1) := by decide +kernel
theorem dX12_isField_97 : decode cX12_isField 97 = .ok (.if_icmp .ne 69, 3) := by decide +kernel
theorem dX12_isField_100 : decode cX12_isField 100 = .ok (.aload_n 0, 1) := by decide +kernel
theorem dX12_isField_101 : decode cX12_isField 101 = .ok (.getfield 7, 3) := by decide +kernel
theorem dX12_isField_104 : decode cX12_isField 104 = .ok (.aload_n 0, 1) := by decide +kernel
theorem dX12_isField_105 : decode cX12_isField 105 = .ok (.getfield 245, 3) := by decide +kernel
theorem dX12_isField_108 : decode cX12_isField 108 = .ok (.iaload, 1) := by decide +kernel
theorem dX12_isField_109 : decode cX12_isField 109 = .ok (.bipush 98, 2) := by decide +kernel
theorem dX12_isField_111 : decode cX12_isField 111 = .ok (.if_icmp .ne 55, 3) := by decide +kernel
theorem dX12_isField_114 : decode cX12_isField 114 = .ok (.aload_n 0, 1) := by decide +kernel
theorem dX12_isField_115 : decode cX12_isField 115 = .ok (.getfield 7, 3) := by decide +kernel
theorem dX12_isField_118 : decode cX12_isField 118 = .ok (.aload_n 0, 1) := by decide +kernel
theorem dX12_isField_119 : decode cX12_isField 119 = .ok (.getfield 245, 3) := by decide +kernel
theorem dX12_isField_122 : decode cX12_isField 122 = .ok (.iconst 1, 1) := by decide +kernel
theorem dX12_isField_123 : decode cX12_isField 123 = .ok (.iadd, 1) := by decide +kernel
theorem dX12_isField_124 : decode cX12_isField 124 = .ok (.iaload, 1) := by decide +kernel
theorem dX12_isField_125 : decode cX12_isField 125 = .ok (.bipush 111, 2) := by decide +kernel
theorem dX12_isField_127 : decode cX12_isField 127 = .ok (.if_icmp .ne 39, 3) := by decide +kernel
theorem dX12_isField_130 : decode cX12_isField 130 = .ok (.aload_n 0, 1) := by decide +kernel
theorem dX12_isField_131 : decode cX12_isField 131 = .ok (.getfield 7, 3) := by decide +kernel
theorem dX12_isField_134 : decode cX12_isField 134 = .ok (.aload_n 0, 1) := by decide +kernel
theorem dX12_isField_135 : decode cX12_isField 135 = .ok (.getfield 245, 3) := by decide +kernel
theorem dX12_isField_138 : decode cX12_isField 138 = .ok (.iconst 2, 1) := by decide +kernel
theorem dX12_isField_139 : decode cX12_isField 139 = .ok (.iadd, 1) := by decide +kernel
theorem dX12_isField_140 : decode cX12_isField 140 = .ok (.iaload, 1) := by decide +kernel
theorem dX12_isField_141 : decode cX12_isField 141 = .ok (.bipush 100, 2) := by decide +kernel
theorem dX12_isField_143 : decode cX12_isField 143 = .ok (.if_icmp .ne 23, 3) := by decide +kernel
theorem dX12_isField_146 : decode cX12_isField 146 = .ok (.aload_n 0, 1) := by decide +kernel
theorem dX12_isField_147 : decode cX12_isField 147 = .ok (.getfield 7, 3) := by decide +kernel
theorem dX12_isField_150 : decode cX12_isField 150 = .ok (.aload_n 0, 1) := by decide +kernel
theorem dX12_isField_151 : decode cX12_isField 151 = .ok (.getfield 245, 3) := by decide +kernel
theorem dX12_isField_154 : decode cX12_isField 154 = .ok (.iconst 3, 1) := by decide +kernel
theorem dX12_isField_155 : decode cX12_isField 155 = .ok (.iadd, 1) := by decide +kernel
theorem dX12_isField_156 : decode cX12_isField 156 = .ok (.iaload, 1) := by decide +kernel
theorem dX12_isField_157 : decode cX12_isField 157 = .ok (.bipush 121, 2) := by decide +kernel
theorem dX12_isField_159 : decode cX12_isField 159 = .ok (.if_icmp .ne 7, 3) := by decide +kernel
theorem dX12_isField_162 : decode cX12_isField 162 = .ok (.iconst 1, 1) := by decide +kernel
theorem dX12_isField_163 : decode cX12_isField 163 = .ok (.goto 4, 3) := by decide +kernel
theorem dX12_isField_166 : decode cX12_isField 166 = .ok (.iconst 0, 1) := by decide +kernel
theorem dX12_isField_167 : decode cX12_isField 167 = .ok (.istore_n 2, 1) := by decide +kernel
theorem dX12_isField_168 : decode cX12_isField 168 = .ok (.aload_n 0, 1) := by decide +kernel
theorem dX12_isField_169 : decode cX12_isField 169 = .ok (.getfield 251, 3) := by decide +kernel
theorem dX12_isField_172 : decode cX12_isField 172 = .ok (.iconst 1, 1) := by decide +kernel
theorem dX12_isField_173 : decode cX12_isField 173 = .ok (.if_icmp .ne 11, 3) := by decide +kernel
theorem dX12_isField_176 : decode cX12_isField 176 = .ok (.iload_n 1, 1) := by decide +kernel
theorem dX12_isField_177 : decode cX12_isField 177 = .ok (.ifCond .ne 9, 3) := by decide +kernel
theorem dX12_isField_180 : decode cX12_isField 180 = .ok (.iload_n 2, 1) := by decide +kernel
theorem dX12_isField_181 : decode cX12_isField 181 = .ok (.ifCond .ne 5, 3) := by decide +kernel
theorem dX12_isField_184 : decode cX12_isField 184 = .ok (.iconst 0, 1) := by decide +kernel
theorem dX12_isField_185 : decode cX12_isField 185 = .ok (.ireturn, 1) := by decide +kernel
theorem dX12_isField_186 : decode cX12_isField 186 = .ok (.aload_n 0, 1) := by decide +kernel
theorem dX12_isField_187 : decode cX12_isField 187 = .ok (.getfield 239, 3) := by decide +kernel
theorem dX12_isField_190 : decode cX12_isField 190 = .ok (.istore_n 3, 1) := by decide +kernel
theorem dX12_isField_191 : decode cX12_isField 191 = .ok (.iload_n 3, 1) := by decide +kernel
theorem dX12_isField_192 : decode cX12_isField 192 = .ok (.aload_n 0, 1) := by decide +kernel
theorem dX12_isField_193 : decode cX12_isField 193 = .ok (.getfield 242, 3) := by decide +kernel
theorem dX12_isField_196 : decode cX12_isField 196 = .ok (.if_icmp .ge 20, 3) := by decide +kernel
theorem dX12_isField_199 : decode cX12_isField 199 = .ok (.aload_n 0, 1) := by decide +kernel
theorem dX12_isField_200 : decode cX12_isField 200 = .ok (.getfield 7, 3) := by decide +kernel
theorem dX12_isField_203 : decode cX12_isField 203 = .ok (.iload_n 3, 1) := by decide +kernel
theorem dX12_isField_204 : decode cX12_isField 204 = .ok (.iaload, 1) := by decide +kernel
theorem dX12_isField_205 : decode cX12_isField 205 = .ok (.bipush 32, 2) := by decide +kernel
theorem dX12_isField_207 : decode cX12_isField 207 = .ok (.if_icmp .ne 9, 3) := by decide +kernel
theorem dX12_isField_210 : decode cX12_isField 210 = .ok (.iinc 3 1, 3) := by decide +kernel
theorem dX12_isField_213 : decode cX12_isField 213 = .ok (.goto (-22), 3) := by decide +kernel
theorem dX12_isField_216 : decode cX12_isField 216 = .ok (.iload_n 3, 1) := by decide +kernel
theorem dX12_isField_217 : decode cX12_isField 217 = .ok (.aload_n 0, 1) := by decide +kernel
theorem dX12_isField_218 : decode cX12_isField 218 = .ok (.getfield 242, 3) := by decide +kernel
theorem dX12_isField_221 : decode cX12_isField 221 = .ok (.if_icmp .ge 18, 3) := by decide +kernel
theorem dX12_isField_224 : decode cX12_isField 224 = .ok (.aload_n 0, 1) := by decide +kernel
theorem dX12_isField_225 : decode cX12_isField 225 = .ok (.getfield 7, 3) := by decide +kernel
theorem dX12_isField_228 : decode cX12_isField 228 = .ok (.iload_n 3, 1) := by decide +kernel
theorem dX12_isField_229 : decode cX12_isField 229 = .ok (.iaload, 1) := by decide +kernel
theorem dX12_isField_230 : decode cX12_isField 230 = .ok (.bipush 58, 2) := by decide +kernel
theorem dX12_isField_232 : decode cX12_isField 232 = .ok (.if_icmp .ne 7, 3) := by decide +kernel
theorem dX12_isField_235 : decode cX12_isField 235 = .ok (.iconst 1, 1) := by decide +kernel
theorem dX12_isField_236 : decode cX12_isField 236 = .ok (.goto 4, 3) := by decide +kernel
theorem dX12_isField_239 : decode cX12_isField 239 = .ok (.iconst 0, 1) := by decide +kernel
theorem dX12_isField_240 : decode cX12_isField 240 = .ok (.ireturn, 1) := by decide +kernel
theorem dX12_emit_0 : decode cX12_emit 0 = .ok (.aload_n 0, 1) := by decide +kernel
theorem dX12_emit_1 : decode cX12_emit 1 = .ok (.getfield 106, 3) := by decide +kernel
theorem dX12_emit_4 : decode cX12_emit 4 = .ok (.aload_n 0, 1) := by decide +kernel
theorem dX12_emit_5 : decode cX12_emit 5 = .ok (.getfield 257, 3) := by decide +kernel
theorem dX12_emit_8 : decode cX12_emit 8 = .ok (.iload_n 1, 1) := by decide +kernel
theorem dX12_emit_9 : decode cX12_emit 9 = .ok (.iastore, 1) := by decide +kernel
theorem dX12_emit_10 : decode cX12_emit 10 = .ok (.aload_n 0, 1) := by decide +kernel
theorem dX12_emit_11 : decode cX12_emit 11 = .ok (.getfield 109, 3) := by decide +kernel
theorem dX12_emit_14 : decode cX12_emit 14 = .ok (.aload_n 0, 1) := by decide +kernel
theorem dX12_emit_15 : decode cX12_emit 15 = .ok (.getfield 257, 3) := by decide +kernel
theorem dX12_emit_18 : decode cX12_emit 18 = .ok (.iload_n 2, 1) := by decide +kernel
theorem dX12_emit_19 : decode cX12_emit 19 = .ok (.iastore, 1) := by decide +kernel
theorem dX12_emit_20 : decode cX12_emit 20 = .ok (.aload_n 0, 1) := by decide +kernel
theorem dX12_emit_21 : decode cX12_emit 21 = .ok (.getfield 112, 3) := by decide +kernel
theorem dX12_emit_24 : decode cX12_emit 24 = .ok (.aload_n 0, 1) := by decide +kernel
theorem dX12_emit_25 : decode cX12_emit 25 = .ok (.getfield 257, 3) := by decide +kernel
theorem dX12_emit_28 : decode cX12_emit 28 = .ok (.iload_n 3, 1) := by decide +kernel
theorem dX12_emit_29 : decode cX12_emit 29 = .ok (.iastore, 1) := by decide +kernel
theorem dX12_emit_30 : decode cX12_emit 30 = .ok (.aload_n 0, 1) := by decide +kernel
theorem dX12_emit_31 : decode cX12_emit 31 = .ok (.getfield 115, 3) := by decide +kernel
theorem dX12_emit_34 : decode cX12_emit 34 = .ok (.aload_n 0, 1) := by decide +kernel
theorem dX12_emit_35 : decode cX12_emit 35 = .ok (.getfield 257, 3) := by decide +kernel
theorem dX12_emit_38 : decode cX12_emit 38 = .ok (.iload 4, 2) := by decide +kernel
theorem dX12_emit_40 : decode cX12_emit 40 = .ok (.iastore, 1) := by decide +kernel
theorem dX12_emit_41 : decode cX12_emit 41 = .ok (.aload_n 0, 1) := by decide +kernel
theorem dX12_emit_42 : decode cX12_emit 42 = .ok (.dup, 1) := by decide +kernel
theorem dX12_emit_43 : decode cX12_emit 43 = .ok (.getfield 257, 3) := by decide +kernel
theorem dX12_emit_46 : decode cX12_emit 46 = .ok (.iconst 1, 1) := by decide +kernel
theorem dX12_emit_47 : decode cX12_emit 47 = .ok (.iadd, 1) := by decide +kernel
theorem dX12_emit_48 : decode cX12_emit 48 = .ok (.putfield 257, 3) := by decide +kernel
theorem dX12_emit_51 : decode cX12_emit 51 = .ok (.return_, 1) := by decide +kernel
theorem dX12_word_0 : decode cX12_word 0 = .ok (.iload_n 2, 1) := by decide +kernel
theorem dX12_word_1 : decode cX12_word 1 = .ok (.ifCond .eq 18, 3) := by decide +kernel
theorem dX12_word_4 : decode cX12_word 4 = .ok (.aload_n 0, 1) := by decide +kernel
theorem dX12_word_5 : decode cX12_word 5 = .ok (.aload_n 0, 1) := by decide +kernel
theorem dX12_word_6 : decode cX12_word 6 = .ok (.getfield 245, 3) := by decide +kernel
theorem dX12_word_9 : decode cX12_word 9 = .ok (.aload_n 0, 1) := by decide +kernel
theorem dX12_word_10 : decode cX12_word 10 = .ok (.getfield 248, 3) := by decide +kernel
theorem dX12_word_13 : decode cX12_word 13 = .ok (.invokevirtual 178, 3) := by decide +kernel
theorem dX12_word_16 : decode cX12_word 16 = .ok (.goto 15, 3) := by decide +kernel
theorem dX12_word_19 : decode cX12_word 19 = .ok (.aload_n 0, 1) := by decide +kernel
theorem dX12_word_20 : decode cX12_word 20 = .ok (.aload_n 0, 1) := by decide +kernel
theorem dX12_word_21 : decode cX12_word 21 = .ok (.getfield 245, 3) := by decide +kernel
theorem dX12_word_24 : decode cX12_word 24 = .ok (.aload_n 0, 1) := by decide +kernel
theorem dX12_word_25 : decode cX12_word 25 = .ok (.getfield 248, 3) := by decide +kernel
theorem dX12_word_28 : decode cX12_word 28 = .ok (.invokevirtual 193, 3) := by decide +kernel
theorem dX12_word_31 : decode cX12_word 31 = .ok (.aload_n 0, 1) := by decide +kernel
theorem dX12_word_32 : decode cX12_word 32 = .ok (.getfield 118, 3) := by decide +kernel
theorem dX12_word_35 : decode cX12_word 35 = .ok (.aload_n 0, 1) := by decide +kernel
theorem dX12_word_36 : decode cX12_word 36 = .ok (.getfield 260, 3) := by decide +kernel
theorem dX12_word_39 : decode cX12_word 39 = .ok (.aload_n 0, 1) := by decide +kernel
theorem dX12_word_40 : decode cX12_word 40 = .ok (.getfield 171, 3) := by decide +kernel
theorem dX12_word_43 : decode cX12_word 43 = .ok (.iastore, 1) := by decide +kernel
theorem dX12_word_44 : decode cX12_word 44 = .ok (.aload_n 0, 1) := by decide +kernel
theorem dX12_word_45 : decode cX12_word 45 = .ok (.getfield 124, 3) := by decide +kernel
theorem dX12_word_48 : decode cX12_word 48 = .ok (.aload_n 0, 1) := by decide +kernel
theorem dX12_word_49 : decode cX12_word 49 = .ok (.getfield 260, 3) := by decide +kernel
theorem dX12_word_52 : decode cX12_word 52 = .ok (.iload_n 1, 1) := by decide +kernel
theorem dX12_word_53 : decode cX12_word 53 = .ok (.iastore, 1) := by decide +kernel
theorem dX12_word_54 : decode cX12_word 54 = .ok (.iconst 0, 1) := by decide +kernel
theorem dX12_word_55 : decode cX12_word 55 = .ok (.istore_n 3, 1) := by decide +kernel
theorem dX12_word_56 : decode cX12_word 56 = .ok (.iload_n 3, 1) := by decide +kernel
theorem dX12_word_57 : decode cX12_word 57 = .ok (.aload_n 0, 1) := by decide +kernel
theorem dX12_word_58 : decode cX12_word 58 = .ok (.getfield 171, 3) := by decide +kernel
theorem dX12_word_61 : decode cX12_word 61 = .ok (.if_icmp .ge 29, 3) := by decide +kernel
theorem dX12_word_64 : decode cX12_word 64 = .ok (.aload_n 0, 1) := by decide +kernel
theorem dX12_word_65 : decode cX12_word 65 = .ok (.getfield 121, 3) := by decide +kernel
theorem dX12_word_68 : decode cX12_word 68 = .ok (.bipush 12, 2) := by decide +kernel
theorem dX12_word_70 : decode cX12_word 70 = .ok (.aload_n 0, 1) := by decide +kernel
theorem dX12_word_71 : decode cX12_word 71 = .ok (.getfield 260, 3) := by decide +kernel
theorem dX12_word_74 : decode cX12_word 74 = .ok (.imul, 1) := by decide +kernel
theorem dX12_word_75 : decode cX12_word 75 = .ok (.iload_n 3, 1) := by decide +kernel
theorem dX12_word_76 : decode cX12_word 76 = .ok (.iadd, 1) := by decide +kernel
theorem dX12_word_77 : decode cX12_word 77 = .ok (.aload_n 0, 1) := by decide +kernel
theorem dX12_word_78 : decode cX12_word 78 = .ok (.getfield 100, 3) := by decide +kernel
theorem dX12_word_81 : decode cX12_word 81 = .ok (.iload_n 3, 1) := by decide +kernel
theorem dX12_word_82 : decode cX12_word 82 = .ok (.iaload, 1) := by decide +kernel
theorem dX12_word_83 : decode cX12_word 83 = .ok (.iastore, 1) := by decide +kernel
theorem dX12_word_84 : decode cX12_word 84 = .ok (.iinc 3 1, 3) := by decide +kernel
theorem dX12_word_87 : decode cX12_word 87 = .ok (.goto (-31), 3) := by decide +kernel
theorem dX12_word_90 : decode cX12_word 90 = .ok (.aload_n 0, 1) := by decide +kernel
theorem dX12_word_91 : decode cX12_word 91 = .ok (.dup, 1) := by decide +kernel
theorem dX12_word_92 : decode cX12_word 92 = .ok (.getfield 260, 3) := by decide +kernel
theorem dX12_word_95 : decode cX12_word 95 = .ok (.iconst 1, 1) := by decide +kernel
theorem dX12_word_96 : decode cX12_word 96 = .ok (.iadd, 1) := by decide +kernel
theorem dX12_word_97 : decode cX12_word 97 = .ok (.putfield 260, 3) := by decide +kernel
theorem dX12_word_100 : decode cX12_word 100 = .ok (.return_, 1) := by decide +kernel
theorem dX12_digit_0 : decode cX12_digit 0 = .ok (.aload_n 0, 1) := by decide +kernel
theorem dX12_digit_1 : decode cX12_digit 1 = .ok (.getfield 251, 3) := by decide +kernel
theorem dX12_digit_4 : decode cX12_digit 4 = .ok (.iconst 1, 1) := by decide +kernel
theorem dX12_digit_5 : decode cX12_digit 5 = .ok (.if_icmp .ne 26, 3) := by decide +kernel
theorem dX12_digit_8 : decode cX12_digit 8 = .ok (.aload_n 0, 1) := by decide +kernel
theorem dX12_digit_9 : decode cX12_digit 9 = .ok (.getfield 248, 3) := by decide +kernel
theorem dX12_digit_12 : decode cX12_digit 12 = .ok (.iconst 1, 1) := by decide +kernel
theorem dX12_digit_13 : decode cX12_digit 13 = .ok (.if_icmp .ne 18, 3) := by decide +kernel
theorem dX12_digit_16 : decode cX12_digit 16 = .ok (.aload_n 0, 1) := by decide +kernel
theorem dX12_digit_17 : decode cX12_digit 17 = .ok (.getfield 7, 3) := by decide +kernel
theorem dX12_digit_20 : decode cX12_digit 20 = .ok (.aload_n 0, 1) := by decide +kernel
theorem dX12_digit_21 : decode cX12_digit 21 = .ok (.getfield 245, 3) := by decide +kernel
theorem dX12_digit_24 : decode cX12_digit 24 = .ok (.iaload, 1) := by decide +kernel
theorem dX12_digit_25 : decode cX12_digit 25 = .ok (.bipush 48, 2) := by decide +kernel
theorem dX12_digit_27 : decode cX12_digit 27 = .ok (.isub, 1) := by decide +kernel
theorem dX12_digit_28 : decode cX12_digit 28 = .ok (.goto 4, 3) := by decide +kernel
theorem dX12_digit_31 : decode cX12_digit 31 = .ok (.iconst (-1), 1) := by decide +kernel
theorem dX12_digit_32 : decode cX12_digit 32 = .ok (.istore_n 2, 1) := by decide +kernel
theorem dX12_digit_33 : decode cX12_digit 33 = .ok (.iload_n 2, 1) := by decide +kernel
theorem dX12_digit_34 : decode cX12_digit 34 = .ok (.iload_n 1, 1) := by decide +kernel
theorem dX12_digit_35 : decode cX12_digit 35 = .ok (.bipush 9, 2) := by decide +kernel
theorem dX12_digit_37 : decode cX12_digit 37 = .ok (.invokestatic 164, 3) := by decide +kernel
theorem dX12_digit_40 : decode cX12_digit 40 = .ok (.ifCond .ne 10, 3) := by decide +kernel
theorem dX12_digit_43 : decode cX12_digit 43 = .ok (.aload_n 0, 1) := by decide +kernel
theorem dX12_digit_44 : decode cX12_digit 44 = .ok (.invokevirtual 263, 3) := by decide +kernel
theorem dX12_digit_47 : decode cX12_digit 47 = .ok (.pop, 1) := by decide +kernel
theorem dX12_digit_48 : decode cX12_digit 48 = .ok (.iconst 0, 1) := by decide +kernel
theorem dX12_digit_49 : decode cX12_digit 49 = .ok (.ireturn, 1) := by decide +kernel
theorem dX12_digit_50 : decode cX12_digit 50 = .ok (.aload_n 0, 1) := by decide +kernel
theorem dX12_digit_51 : decode cX12_digit 51 = .ok (.invokevirtual 267, 3) := by decide +kernel
theorem dX12_digit_54 : decode cX12_digit 54 = .ok (.iload_n 2, 1) := by decide +kernel
theorem dX12_digit_55 : decode cX12_digit 55 = .ok (.ireturn, 1) := by decide +kernel
theorem dX12_range_0 : decode cX12_range 0 = .ok (.aload_n 0, 1) := by decide +kernel
theorem dX12_range_1 : decode cX12_range 1 = .ok (.invokevirtual 267, 3) := by decide +kernel
theorem dX12_range_4 : decode cX12_range 4 = .ok (.aload_n 0, 1) := by decide +kernel
theorem dX12_range_5 : decode cX12_range 5 = .ok (.getfield 251, 3) := by decide +kernel
theorem dX12_range_8 : decode cX12_range 8 = .ok (.iconst 1, 1) := by decide +kernel
theorem dX12_range_9 : decode cX12_range 9 = .ok (.if_icmp .ne 29, 3) := by decide +kernel
theorem dX12_range_12 : decode cX12_range 12 = .ok (.aload_n 0, 1) := by decide +kernel
theorem dX12_range_13 : decode cX12_range 13 = .ok (.getfield 248, 3) := by decide +kernel
theorem dX12_range_16 : decode cX12_range 16 = .ok (.iconst 1, 1) := by decide +kernel
theorem dX12_range_17 : decode cX12_range 17 = .ok (.if_icmp .ne 21, 3) := by decide +kernel
theorem dX12_range_20 : decode cX12_range 20 = .ok (.aload_n 0, 1) := by decide +kernel
theorem dX12_range_21 : decode cX12_range 21 = .ok (.getfield 7, 3) := by decide +kernel
theorem dX12_range_24 : decode cX12_range 24 = .ok (.aload_n 0, 1) := by decide +kernel
theorem dX12_range_25 : decode cX12_range 25 = .ok (.getfield 245, 3) := by decide +kernel
theorem dX12_range_28 : decode cX12_range 28 = .ok (.iaload, 1) := by decide +kernel
theorem dX12_range_29 : decode cX12_range 29 = .ok (.bipush 120, 2) := by decide +kernel
theorem dX12_range_31 : decode cX12_range 31 = .ok (.if_icmp .ne 7, 3) := by decide +kernel
theorem dX12_range_34 : decode cX12_range 34 = .ok (.iconst 1, 1) := by decide +kernel
theorem dX12_range_35 : decode cX12_range 35 = .ok (.goto 4, 3) := by decide +kernel
theorem dX12_range_38 : decode cX12_range 38 = .ok (.iconst 0, 1) := by decide +kernel
theorem dX12_range_39 : decode cX12_range 39 = .ok (.istore_n 1, 1) := by decide +kernel
theorem dX12_range_40 : decode cX12_range 40 = .ok (.aload_n 0, 1) := by decide +kernel
theorem dX12_range_41 : decode cX12_range 41 = .ok (.getfield 251, 3) := by decide +kernel
theorem dX12_range_44 : decode cX12_range 44 = .ok (.iconst 1, 1) := by decide +kernel
theorem dX12_range_45 : decode cX12_range 45 = .ok (.if_icmp .ne 29, 3) := by decide +kernel
theorem dX12_range_48 : decode cX12_range 48 = .ok (.aload_n 0, 1) := by decide +kernel
theorem dX12_range_49 : decode cX12_range 49 = .ok (.getfield 248, 3) := by decide +kernel
theorem dX12_range_52 : decode cX12_range 52 = .ok (.iconst 1, 1) := by decide +kernel
theorem dX12_range_53 : decode cX12_range 53 = .ok (.if_icmp .ne 21, 3) := by decide +kernel
theorem dX12_range_56 : decode cX12_range 56 = .ok (.aload_n 0, 1) := by decide +kernel
theorem dX12_range_57 : decode cX12_range 57 = .ok (.getfield 7, 3) := by decide +kernel
theorem dX12_range_60 : decode cX12_range 60 = .ok (.aload_n 0, 1) := by decide +kernel
theorem dX12_range_61 : decode cX12_range 61 = .ok (.getfield 245, 3) := by decide +kernel
theorem dX12_range_64 : decode cX12_range 64 = .ok (.iaload, 1) := by decide +kernel
theorem dX12_range_65 : decode cX12_range 65 = .ok (.bipush 121, 2) := by decide +kernel
theorem dX12_range_67 : decode cX12_range 67 = .ok (.if_icmp .ne 7, 3) := by decide +kernel
theorem dX12_range_70 : decode cX12_range 70 = .ok (.iconst 1, 1) := by decide +kernel
theorem dX12_range_71 : decode cX12_range 71 = .ok (.goto 4, 3) := by decide +kernel
theorem dX12_range_74 : decode cX12_range 74 = .ok (.iconst 0, 1) := by decide +kernel
theorem dX12_range_75 : decode cX12_range 75 = .ok (.istore_n 2, 1) := by decide +kernel
theorem dX12_range_76 : decode cX12_range 76 = .ok (.iload_n 1, 1) := by decide +kernel
theorem dX12_range_77 : decode cX12_range 77 = .ok (.ifCond .ne 12, 3) := by decide +kernel
theorem dX12_range_80 : decode cX12_range 80 = .ok (.iload_n 2, 1) := by decide +kernel
theorem dX12_range_81 : decode cX12_range 81 = .ok (.ifCond .ne 8, 3) := by decide +kernel
theorem dX12_range_84 : decode cX12_range 84 = .ok (.aload_n 0, 1) := by decide +kernel
theorem dX12_range_85 : decode cX12_range 85 = .ok (.invokevirtual 263, 3) := by decide +kernel
theorem dX12_range_88 : decode cX12_range 88 = .ok (.ireturn, 1) := by decide +kernel
theorem dX12_range_89 : decode cX12_range 89 = .ok (.aload_n 0, 1) := by decide +kernel
theorem dX12_range_90 : decode cX12_range 90 = .ok (.invokevirtual 267, 3) := by decide +kernel
theorem dX12_range_93 : decode cX12_range 93 = .ok (.aload_n 0, 1) := by decide +kernel
theorem dX12_range_94 : decode cX12_range 94 = .ok (.invokevirtual 270, 3) := by decide +kernel
theorem dX12_range_97 : decode cX12_range 97 = .ok (.istore_n 3, 1) := by decide +kernel
theorem dX12_range_98 : decode cX12_range 98 = .ok (.aload_n 0, 1) := by decide +kernel
theorem dX12_range_99 : decode cX12_range 99 = .ok (.getfield 254, 3) := by decide +kernel
theorem dX12_range_102 : decode cX12_range 102 = .ok (.iconst (-1), 1) := by decide +kernel
theorem dX12_range_103 : decode cX12_range 103 = .ok (.if_icmp .eq 5, 3) := by decide +kernel
theorem dX12_range_106 : decode cX12_range 106 = .ok (.iconst 0, 1) := by decide +kernel
theorem dX12_range_107 : decode cX12_range 107 = .ok (.ireturn, 1) := by decide +kernel
theorem dX12_range_108 : decode cX12_range 108 = .ok (.aload_n 0, 1) := by decide +kernel
theorem dX12_range_109 : decode cX12_range 109 = .ok (.invokevirtual 270, 3) := by decide +kernel
theorem dX12_range_112 : decode cX12_range 112 = .ok (.istore 4, 2) := by decide +kernel
theorem dX12_range_114 : decode cX12_range 114 = .ok (.aload_n 0, 1) := by decide +kernel
theorem dX12_range_115 : decode cX12_range 115 = .ok (.getfield 254, 3) := by decide +kernel
theorem dX12_range_118 : decode cX12_range 118 = .ok (.iconst (-1), 1) := by decide +kernel
theorem dX12_range_119 : decode cX12_range 119 = .ok (.if_icmp .eq 5, 3) := by decide +kernel
theorem dX12_range_122 : decode cX12_range 122 = .ok (.iconst 0, 1) := by decide +kernel
theorem dX12_range_123 : decode cX12_range 123 = .ok (.ireturn, 1) := by decide +kernel
theorem dX12_range_124 : decode cX12_range 124 = .ok (.aload_n 0, 1) := by decide +kernel
theorem dX12_range_125 : decode cX12_range 125 = .ok (.getfield 251, 3) := by decide +kernel
theorem dX12_range_128 : decode cX12_range 128 = .ok (.bipush 93, 2) := by decide +kernel
theorem dX12_range_130 : decode cX12_range 130 = .ok (.if_icmp .eq 8, 3) := by decide +kernel
theorem dX12_range_133 : decode cX12_range 133 = .ok (.aload_n 0, 1) := by decide +kernel
theorem dX12_range_134 : decode cX12_range 134 = .ok (.invokevirtual 263, 3) := by decide +kernel
theorem dX12_range_137 : decode cX12_range 137 = .ok (.ireturn, 1) := by decide +kernel
theorem dX12_range_138 : decode cX12_range 138 = .ok (.aload_n 0, 1) := by decide +kernel
theorem dX12_range_139 : decode cX12_range 139 = .ok (.invokevirtual 267, 3) := by decide +kernel
theorem dX12_range_142 : decode cX12_range 142 = .ok (.aload_n 0, 1) := by decide +kernel
theorem dX12_range_143 : decode cX12_range 143 = .ok (.iconst 4, 1) := by decide +kernel
theorem dX12_range_144 : decode cX12_range 144 = .ok (.iload_n 1, 1) := by decide +kernel
theorem dX12_range_145 : decode cX12_range 145 = .ok (.ifCond .eq 7, 3) := by decide +kernel
theorem dX12_range_148 : decode cX12_range 148 = .ok (.iconst 0, 1) := by decide +kernel
theorem dX12_range_149 : decode cX12_range 149 = .ok (.goto 4, 3) := by decide +kernel
theorem dX12_range_152 : decode cX12_range 152 = .ok (.iconst 1, 1) := by decide +kernel
theorem dX12_range_153 : decode cX12_range 153 = .ok (.iload_n 3, 1) := by decide +kernel
theorem dX12_range_154 : decode cX12_range 154 = .ok (.iload 4, 2) := by decide +kernel
theorem dX12_range_156 : decode cX12_range 156 = .ok (.invokevirtual 273, 3) := by decide +kernel
theorem dX12_range_159 : decode cX12_range 159 = .ok (.iconst 1, 1) := by decide +kernel
theorem dX12_range_160 : decode cX12_range 160 = .ok (.ireturn, 1) := by decide +kernel
theorem dX12_number_0 : decode cX12_number 0 = .ok (.aload_n 0, 1) := by decide +kernel
theorem dX12_number_1 : decode cX12_number 1 = .ok (.getfield 251, 3) := by decide +kernel
theorem dX12_number_4 : decode cX12_number 4 = .ok (.bipush 45, 2) := by decide +kernel
theorem dX12_number_6 : decode cX12_number 6 = .ok (.if_icmp .ne 7, 3) := by decide +kernel
theorem dX12_number_9 : decode cX12_number 9 = .ok (.iconst 1, 1) := by decide +kernel
theorem dX12_number_10 : decode cX12_number 10 = .ok (.goto 4, 3) := by decide +kernel
theorem dX12_number_13 : decode cX12_number 13 = .ok (.iconst 0, 1) := by decide +kernel
theorem dX12_number_14 : decode cX12_number 14 = .ok (.istore_n 1, 1) := by decide +kernel
theorem dX12_number_15 : decode cX12_number 15 = .ok (.iload_n 1, 1) := by decide +kernel
theorem dX12_number_16 : decode cX12_number 16 = .ok (.ifCond .eq 7, 3) := by decide +kernel
theorem dX12_number_19 : decode cX12_number 19 = .ok (.aload_n 0, 1) := by decide +kernel
theorem dX12_number_20 : decode cX12_number 20 = .ok (.invokevirtual 267, 3) := by decide +kernel
theorem dX12_number_23 : decode cX12_number 23 = .ok (.iconst 0, 1) := by decide +kernel
theorem dX12_number_24 : decode cX12_number 24 = .ok (.istore_n 2, 1) := by decide +kernel
theorem dX12_number_25 : decode cX12_number 25 = .ok (.aload_n 0, 1) := by decide +kernel
theorem dX12_number_26 : decode cX12_number 26 = .ok (.getfield 251, 3) := by decide +kernel
theorem dX12_number_29 : decode cX12_number 29 = .ok (.iconst 1, 1) := by decide +kernel
theorem dX12_number_30 : decode cX12_number 30 = .ok (.if_icmp .ne 16, 3) := by decide +kernel
theorem dX12_number_33 : decode cX12_number 33 = .ok (.aload_n 0, 1) := by decide +kernel
theorem dX12_number_34 : decode cX12_number 34 = .ok (.getfield 248, 3) := by decide +kernel
theorem dX12_number_37 : decode cX12_number 37 = .ok (.bipush 9, 2) := by decide +kernel
theorem dX12_number_39 : decode cX12_number 39 = .ok (.if_icmp .gt 7, 3) := by decide +kernel
theorem dX12_number_42 : decode cX12_number 42 = .ok (.iconst 1, 1) := by decide +kernel
theorem dX12_number_43 : decode cX12_number 43 = .ok (.goto 4, 3) := by decide +kernel
theorem dX12_number_46 : decode cX12_number 46 = .ok (.iconst 0, 1) := by decide +kernel
theorem dX12_number_47 : decode cX12_number 47 = .ok (.istore_n 3, 1) := by decide +kernel
theorem dX12_number_48 : decode cX12_number 48 = .ok (.iconst 0, 1) := by decide +kernel
theorem dX12_number_49 : decode cX12_number 49 = .ok (.istore 4, 2) := by decide +kernel
theorem dX12_number_51 : decode cX12_number 51 = .ok (.iload 4, 2) := by decide +kernel
theorem dX12_number_53 : decode cX12_number 53 = .ok (.aload_n 0, 1) := by decide +kernel
theorem dX12_number_54 : decode cX12_number 54 = .ok (.getfield 248, 3) := by decide +kernel
theorem dX12_number_57 : decode cX12_number 57 = .ok (.if_icmp .ge 54, 3) := by decide +kernel
theorem dX12_number_60 : decode cX12_number 60 = .ok (.iload_n 3, 1) := by decide +kernel
theorem dX12_number_61 : decode cX12_number 61 = .ok (.ifCond .eq 50, 3) := by decide +kernel
theorem dX12_number_64 : decode cX12_number 64 = .ok (.aload_n 0, 1) := by decide +kernel
theorem dX12_number_65 : decode cX12_number 65 = .ok (.getfield 7, 3) := by decide +kernel
theorem dX12_number_68 : decode cX12_number 68 = .ok (.aload_n 0, 1) := by decide +kernel
theorem dX12_number_69 : decode cX12_number 69 = .ok (.getfield 245, 3) := by decide +kernel
theorem dX12_number_72 : decode cX12_number 72 = .ok (.iload 4, 2) := by decide +kernel
theorem dX12_number_74 : decode cX12_number 74 = .ok (.iadd, 1) := by decide +kernel
theorem dX12_number_75 : decode cX12_number 75 = .ok (.iaload, 1) := by decide +kernel
theorem dX12_number_76 : decode cX12_number 76 = .ok (.bipush 48, 2) := by decide +kernel
theorem dX12_number_78 : decode cX12_number 78 = .ok (.bipush 57, 2) := by decide +kernel
theorem dX12_number_80 : decode cX12_number 80 = .ok (.invokestatic 164, 3) := by decide +kernel
theorem dX12_number_83 : decode cX12_number 83 = .ok (.istore_n 3, 1) := by decide +kernel
theorem dX12_number_84 : decode cX12_number 84 = .ok (.bipush 10, 2) := by decide +kernel
theorem dX12_number_86 : decode cX12_number 86 = .ok (.iload_n 2, 1) := by decide +kernel
theorem dX12_number_87 : decode cX12_number 87 = .ok (.imul, 1) := by decide +kernel
theorem dX12_number_88 : decode cX12_number 88 = .ok (.aload_n 0, 1) := by decide +kernel
theorem dX12_number_89 : decode cX12_number 89 = .ok (.getfield 7, 3) := by decide +kernel
theorem dX12_number_92 : decode cX12_number 92 = .ok (.aload_n 0, 1) := by decide +kernel
theorem dX12_number_93 : decode cX12_number 93 = .ok (.getfield 245, 3) := by decide +kernel
theorem dX12_number_96 : decode cX12_number 96 = .ok (.iload 4, 2) := by decide +kernel
theorem dX12_number_98 : decode cX12_number 98 = .ok (.iadd, 1) := by decide +kernel
theorem dX12_number_99 : decode cX12_number 99 = .ok (.iaload, 1) := by decide +kernel
theorem dX12_number_100 : decode cX12_number 100 = .ok (.iadd, 1) := by decide +kernel
theorem dX12_number_101 : decode cX12_number 101 = .ok (.bipush 48, 2) := by decide +kernel
theorem dX12_number_103 : decode cX12_number 103 = .ok (.isub, 1) := by decide +kernel
theorem dX12_number_104 : decode cX12_number 104 = .ok (.istore_n 2, 1) := by decide +kernel
theorem dX12_number_105 : decode cX12_number 105 = .ok (.iinc 4 1, 3) := by decide +kernel
theorem dX12_number_108 : decode cX12_number 108 = .ok (.goto (-57), 3) := by decide +kernel
theorem dX12_number_111 : decode cX12_number 111 = .ok (.iload_n 3, 1) := by decide +kernel
theorem dX12_number_112 : decode cX12_number 112 = .ok (.ifCond .ne 10, 3) := by decide +kernel
theorem dX12_number_115 : decode cX12_number 115 = .ok (.aload_n 0, 1) := by decide +kernel
theorem dX12_number_116 : decode cX12_number 116 = .ok (.invokevirtual 263, 3) := by decide +kernel
theorem dX12_number_119 : decode cX12_number 119 = .ok (.pop, 1) := by decide +kernel
theorem dX12_number_120 : decode cX12_number 120 = .ok (.iconst 0, 1) := by decide +kernel
theorem dX12_number_121 : decode cX12_number 121 = .ok (.ireturn, 1) := by decide +kernel
theorem dX12_number_122 : decode cX12_number 122 = .ok (.aload_n 0, 1) := by decide +kernel
theorem dX12_number_123 : decode cX12_number 123 = .ok (.invokevirtual 267, 3) := by decide +kernel
theorem dX12_number_126 : decode cX12_number 126 = .ok (.iload_n 1, 1) := by decide +kernel
theorem dX12_number_127 : decode cX12_number 127 = .ok (.ifCond .eq 8, 3) := by decide +kernel
theorem dX12_number_130 : decode cX12_number 130 = .ok (.iload_n 2, 1) := by decide +kernel
theorem dX12_number_131 : decode cX12_number 131 = .ok (.ineg, 1) := by decide +kernel
theorem dX12_number_132 : decode cX12_number 132 = .ok (.goto 4, 3) := by decide +kernel
theorem dX12_number_135 : decode cX12_number 135 = .ok (.iload_n 2, 1) := by decide +kernel
theorem dX12_number_136 : decode cX12_number 136 = .ok (.ireturn, 1) := by decide +kernel
theorem dX12_atom_0 : decode cX12_atom 0 = .ok (.aload_n 0, 1) := by decide +kernel
theorem dX12_atom_1 : decode cX12_atom 1 = .ok (.getfield 251, 3) := by decide +kernel
theorem dX12_atom_4 : decode cX12_atom 4 = .ok (.bipush 91, 2) := by decide +kernel
theorem dX12_atom_6 : decode cX12_atom 6 = .ok (.if_icmp .ne 8, 3) := by decide +kernel
theorem dX12_atom_9 : decode cX12_atom 9 = .ok (.aload_n 0, 1) := by decide +kernel
theorem dX12_atom_10 : decode cX12_atom 10 = .ok (.invokevirtual 276, 3) := by decide +kernel
theorem dX12_atom_13 : decode cX12_atom 13 = .ok (.ireturn, 1) := by decide +kernel
theorem dX12_atom_14 : decode cX12_atom 14 = .ok (.iconst (-1), 1) := by decide +kernel
theorem dX12_atom_15 : decode cX12_atom 15 = .ok (.istore_n 1, 1) := by decide +kernel
theorem dX12_atom_16 : decode cX12_atom 16 = .ok (.aload_n 0, 1) := by decide +kernel
theorem dX12_atom_17 : decode cX12_atom 17 = .ok (.invokevirtual 279, 3) := by decide +kernel
theorem dX12_atom_20 : decode cX12_atom 20 = .ok (.ifCond .eq 31, 3) := by decide +kernel
theorem dX12_atom_23 : decode cX12_atom 23 = .ok (.aload_n 0, 1) := by decide +kernel
theorem dX12_atom_24 : decode cX12_atom 24 = .ok (.getfield 7, 3) := by decide +kernel
theorem dX12_atom_27 : decode cX12_atom 27 = .ok (.aload_n 0, 1) := by decide +kernel
theorem dX12_atom_28 : decode cX12_atom 28 = .ok (.getfield 245, 3) := by decide +kernel
theorem dX12_atom_31 : decode cX12_atom 31 = .ok (.iaload, 1) := by decide +kernel
theorem dX12_atom_32 : decode cX12_atom 32 = .ok (.bipush 116, 2) := by decide +kernel
theorem dX12_atom_34 : decode cX12_atom 34 = .ok (.if_icmp .ne 7, 3) := by decide +kernel
theorem dX12_atom_37 : decode cX12_atom 37 = .ok (.iconst 0, 1) := by decide +kernel
theorem dX12_atom_38 : decode cX12_atom 38 = .ok (.goto 4, 3) := by decide +kernel
theorem dX12_atom_41 : decode cX12_atom 41 = .ok (.iconst 1, 1) := by decide +kernel
theorem dX12_atom_42 : decode cX12_atom 42 = .ok (.istore_n 1, 1) := by decide +kernel
theorem dX12_atom_43 : decode cX12_atom 43 = .ok (.aload_n 0, 1) := by decide +kernel
theorem dX12_atom_44 : decode cX12_atom 44 = .ok (.invokevirtual 267, 3) := by decide +kernel
theorem dX12_atom_47 : decode cX12_atom 47 = .ok (.aload_n 0, 1) := by decide +kernel
theorem dX12_atom_48 : decode cX12_atom 48 = .ok (.invokevirtual 267, 3) := by decide +kernel
theorem dX12_atom_51 : decode cX12_atom 51 = .ok (.aload_n 0, 1) := by decide +kernel
theorem dX12_atom_52 : decode cX12_atom 52 = .ok (.getfield 251, 3) := by decide +kernel
theorem dX12_atom_55 : decode cX12_atom 55 = .ok (.bipush 34, 2) := by decide +kernel
theorem dX12_atom_57 : decode cX12_atom 57 = .ok (.if_icmp .ne 9, 3) := by decide +kernel
theorem dX12_atom_60 : decode cX12_atom 60 = .ok (.aload_n 0, 1) := by decide +kernel
theorem dX12_atom_61 : decode cX12_atom 61 = .ok (.iload_n 1, 1) := by decide +kernel
theorem dX12_atom_62 : decode cX12_atom 62 = .ok (.invokevirtual 282, 3) := by decide +kernel
theorem dX12_atom_65 : decode cX12_atom 65 = .ok (.ireturn, 1) := by decide +kernel
theorem dX12_atom_66 : decode cX12_atom 66 = .ok (.aload_n 0, 1) := by decide +kernel
theorem dX12_atom_67 : decode cX12_atom 67 = .ok (.getfield 251, 3) := by decide +kernel
theorem dX12_atom_70 : decode cX12_atom 70 = .ok (.iconst 1, 1) := by decide +kernel
theorem dX12_atom_71 : decode cX12_atom 71 = .ok (.if_icmp .eq 8, 3) := by decide +kernel
theorem dX12_atom_74 : decode cX12_atom 74 = .ok (.aload_n 0, 1) := by decide +kernel
theorem dX12_atom_75 : decode cX12_atom 75 = .ok (.invokevirtual 263, 3) := by decide +kernel
theorem dX12_atom_78 : decode cX12_atom 78 = .ok (.ireturn, 1) := by decide +kernel
theorem dX12_atom_79 : decode cX12_atom 79 = .ok (.aload_n 0, 1) := by decide +kernel
theorem dX12_atom_80 : decode cX12_atom 80 = .ok (.getfield 239, 3) := by decide +kernel
theorem dX12_atom_83 : decode cX12_atom 83 = .ok (.istore_n 2, 1) := by decide +kernel
theorem dX12_atom_84 : decode cX12_atom 84 = .ok (.iload_n 2, 1) := by decide +kernel
theorem dX12_atom_85 : decode cX12_atom 85 = .ok (.aload_n 0, 1) := by decide +kernel
theorem dX12_atom_86 : decode cX12_atom 86 = .ok (.getfield 242, 3) := by decide +kernel
theorem dX12_atom_89 : decode cX12_atom 89 = .ok (.if_icmp .ge 20, 3) := by decide +kernel
theorem dX12_atom_92 : decode cX12_atom 92 = .ok (.aload_n 0, 1) := by decide +kernel
theorem dX12_atom_93 : decode cX12_atom 93 = .ok (.getfield 7, 3) := by decide +kernel
theorem dX12_atom_96 : decode cX12_atom 96 = .ok (.iload_n 2, 1) := by decide +kernel
theorem dX12_atom_97 : decode cX12_atom 97 = .ok (.iaload, 1) := by decide +kernel
theorem dX12_atom_98 : decode cX12_atom 98 = .ok (.bipush 32, 2) := by decide +kernel
theorem dX12_atom_100 : decode cX12_atom 100 = .ok (.if_icmp .ne 9, 3) := by decide +kernel
theorem dX12_atom_103 : decode cX12_atom 103 = .ok (.iinc 2 1, 3) := by decide +kernel
theorem dX12_atom_106 : decode cX12_atom 106 = .ok (.goto (-22), 3) := by decide +kernel
theorem dX12_atom_109 : decode cX12_atom 109 = .ok (.iload_n 2, 1) := by decide +kernel
theorem dX12_atom_110 : decode cX12_atom 110 = .ok (.aload_n 0, 1) := by decide +kernel
theorem dX12_atom_111 : decode cX12_atom 111 = .ok (.getfield 242, 3) := by decide +kernel
theorem dX12_atom_114 : decode cX12_atom 114 = .ok (.if_icmp .ge 18, 3) := by decide +kernel
theorem dX12_atom_117 : decode cX12_atom 117 = .ok (.aload_n 0, 1) := by decide +kernel
theorem dX12_atom_118 : decode cX12_atom 118 = .ok (.getfield 7, 3) := by decide +kernel
theorem dX12_atom_121 : decode cX12_atom 121 = .ok (.iload_n 2, 1) := by decide +kernel
theorem dX12_atom_122 : decode cX12_atom 122 = .ok (.iaload, 1) := by decide +kernel
theorem dX12_atom_123 : decode cX12_atom 123 = .ok (.bipush 42, 2) := by decide +kernel
theorem dX12_atom_125 : decode cX12_atom 125 = .ok (.if_icmp .ne 7, 3) := by decide +kernel
theorem dX12_atom_128 : decode cX12_atom 128 = .ok (.iconst 1, 1) := by decide +kernel
theorem dX12_atom_129 : decode cX12_atom 129 = .ok (.goto 4, 3) := by decide +kernel
theorem dX12_atom_132 : decode cX12_atom 132 = .ok (.iconst 0, 1) := by decide +kernel
theorem dX12_atom_133 : decode cX12_atom 133 = .ok (.istore_n 3, 1) := by decide +kernel
theorem dX12_atom_134 : decode cX12_atom 134 = .ok (.aload_n 0, 1) := by decide +kernel
theorem dX12_atom_135 : decode cX12_atom 135 = .ok (.iconst 0, 1) := by decide +kernel
theorem dX12_atom_136 : decode cX12_atom 136 = .ok (.iload_n 3, 1) := by decide +kernel
theorem dX12_atom_137 : decode cX12_atom 137 = .ok (.invokevirtual 285, 3) := by decide +kernel
theorem dX12_atom_140 : decode cX12_atom 140 = .ok (.aload_n 0, 1) := by decide +kernel
theorem dX12_atom_141 : decode cX12_atom 141 = .ok (.invokevirtual 267, 3) := by decide +kernel
theorem dX12_atom_144 : decode cX12_atom 144 = .ok (.iload_n 3, 1) := by decide +kernel
theorem dX12_atom_145 : decode cX12_atom 145 = .ok (.ifCond .eq 7, 3) := by decide +kernel
theorem dX12_atom_148 : decode cX12_atom 148 = .ok (.aload_n 0, 1) := by decide +kernel
theorem dX12_atom_149 : decode cX12_atom 149 = .ok (.invokevirtual 267, 3) := by decide +kernel
theorem dX12_atom_152 : decode cX12_atom 152 = .ok (.aload_n 0, 1) := by decide +kernel
theorem dX12_atom_153 : decode cX12_atom 153 = .ok (.iload_n 3, 1) := by decide +kernel
theorem dX12_atom_154 : decode cX12_atom 154 = .ok (.ifCond .eq 7, 3) := by decide +kernel
theorem dX12_atom_157 : decode cX12_atom 157 = .ok (.iconst 2, 1) := by decide +kernel
theorem dX12_atom_158 : decode cX12_atom 158 = .ok (.goto 4, 3) := by decide +kernel
theorem dX12_atom_161 : decode cX12_atom 161 = .ok (.iconst 1, 1) := by decide +kernel
theorem dX12_atom_162 : decode cX12_atom 162 = .ok (.iload_n 1, 1) := by decide +kernel
theorem dX12_atom_163 : decode cX12_atom 163 = .ok (.aload_n 0, 1) := by decide +kernel
theorem dX12_atom_164 : decode cX12_atom 164 = .ok (.getfield 260, 3) := by decide +kernel
theorem dX12_atom_167 : decode cX12_atom 167 = .ok (.iconst 1, 1) := by decide +kernel
theorem dX12_atom_168 : decode cX12_atom 168 = .ok (.isub, 1) := by decide +kernel
theorem dX12_atom_169 : decode cX12_atom 169 = .ok (.iconst 1, 1) := by decide +kernel
theorem dX12_atom_170 : decode cX12_atom 170 = .ok (.invokevirtual 273, 3) := by decide +kernel
theorem dX12_atom_173 : decode cX12_atom 173 = .ok (.iconst 1, 1) := by decide +kernel
theorem dX12_atom_174 : decode cX12_atom 174 = .ok (.ireturn, 1) := by decide +kernel
theorem dX12_phrase_0 : decode cX12_phrase 0 = .ok (.aload_n 0, 1) := by decide +kernel
theorem dX12_phrase_1 : decode cX12_phrase 1 = .ok (.invokevirtual 267, 3) := by decide +kernel
theorem dX12_phrase_4 : decode cX12_phrase 4 = .ok (.aload_n 0, 1) := by decide +kernel
theorem dX12_phrase_5 : decode cX12_phrase 5 = .ok (.getfield 260, 3) := by decide +kernel
theorem dX12_phrase_8 : decode cX12_phrase 8 = .ok (.istore_n 2, 1) := by decide +kernel
theorem dX12_phrase_9 : decode cX12_phrase 9 = .ok (.iconst 0, 1) := by decide +kernel
theorem dX12_phrase_10 : decode cX12_phrase 10 = .ok (.istore_n 3, 1) := by decide +kernel
theorem dX12_phrase_11 : decode cX12_phrase 11 = .ok (.aload_n 0, 1) := by decide +kernel
theorem dX12_phrase_12 : decode cX12_phrase 12 = .ok (.getfield 251, 3) := by decide +kernel
theorem dX12_phrase_15 : decode cX12_phrase 15 = .ok (.iconst 1, 1) := by decide +kernel
theorem dX12_phrase_16 : decode cX12_phrase 16 = .ok (.if_icmp .eq 8, 3) := by decide +kernel
theorem dX12_phrase_19 : decode cX12_phrase 19 = .ok (.aload_n 0, 1) := by decide +kernel
theorem dX12_phrase_20 : decode cX12_phrase 20 = .ok (.invokevirtual 263, 3) := by decide +kernel
theorem dX12_phrase_23 : decode cX12_phrase 23 = .ok (.ireturn, 1) := by decide +kernel
theorem dX12_phrase_24 : decode cX12_phrase 24 = .ok (.aload_n 0, 1) := by decide +kernel
theorem dX12_phrase_25 : decode cX12_phrase 25 = .ok (.getfield 251, 3) := by decide +kernel
theorem dX12_phrase_28 : decode cX12_phrase 28 = .ok (.iconst 1, 1) := by decide +kernel
theorem dX12_phrase_29 : decode cX12_phrase 29 = .ok (.if_icmp .ne 30, 3) := by decide +kernel
theorem dX12_phrase_32 : decode cX12_phrase 32 = .ok (.iload_n 3, 1) := by decide +kernel
theorem dX12_phrase_33 : decode cX12_phrase 33 = .ok (.bipush 8, 2) := by decide +kernel
theorem dX12_phrase_35 : decode cX12_phrase 35 = .ok (.if_icmp .ne 8, 3) := by decide +kernel
theorem dX12_phrase_38 : decode cX12_phrase 38 = .ok (.aload_n 0, 1) := by decide +kernel
theorem dX12_phrase_39 : decode cX12_phrase 39 = .ok (.invokevirtual 263, 3) := by decide +kernel
theorem dX12_phrase_42 : decode cX12_phrase 42 = .ok (.ireturn, 1) := by decide +kernel
theorem dX12_phrase_43 : decode cX12_phrase 43 = .ok (.aload_n 0, 1) := by decide +kernel
theorem dX12_phrase_44 : decode cX12_phrase 44 = .ok (.iload_n 3, 1) := by decide +kernel
theorem dX12_phrase_45 : decode cX12_phrase 45 = .ok (.iconst 0, 1) := by decide +kernel
theorem dX12_phrase_46 : decode cX12_phrase 46 = .ok (.invokevirtual 285, 3) := by decide +kernel
theorem dX12_phrase_49 : decode cX12_phrase 49 = .ok (.iinc 3 1, 3) := by decide +kernel
theorem dX12_phrase_52 : decode cX12_phrase 52 = .ok (.aload_n 0, 1) := by decide +kernel
theorem dX12_phrase_53 : decode cX12_phrase 53 = .ok (.invokevirtual 267, 3) := by decide +kernel
theorem dX12_phrase_56 : decode cX12_phrase 56 = .ok (.goto (-32), 3) := by decide +kernel
theorem dX12_phrase_59 : decode cX12_phrase 59 = .ok (.aload_n 0, 1) := by decide +kernel
theorem dX12_phrase_60 : decode cX12_phrase 60 = .ok (.getfield 251, 3) := by decide +kernel
theorem dX12_phrase_63 : decode cX12_phrase 63 = .ok (.bipush 34, 2) := by decide +kernel
theorem dX12_phrase_65 : decode cX12_phrase 65 = .ok (.if_icmp .eq 8, 3) := by decide +kernel
theorem dX12_phrase_68 : decode cX12_phrase 68 = .ok (.aload_n 0, 1) := by decide +kernel
theorem dX12_phrase_69 : decode cX12_phrase 69 = .ok (.invokevirtual 263, 3) := by decide +kernel
theorem dX12_phrase_72 : decode cX12_phrase 72 = .ok (.ireturn, 1) := by decide +kernel
theorem dX12_phrase_73 : decode cX12_phrase 73 = .ok (.aload_n 0, 1) := by decide +kernel
theorem dX12_phrase_74 : decode cX12_phrase 74 = .ok (.invokevirtual 267, 3) := by decide +kernel
theorem dX12_phrase_77 : decode cX12_phrase 77 = .ok (.iconst 0, 1) := by decide +kernel
theorem dX12_phrase_78 : decode cX12_phrase 78 = .ok (.istore 4, 2) := by decide +kernel
theorem dX12_phrase_80 : decode cX12_phrase 80 = .ok (.aload_n 0, 1) := by decide +kernel
theorem dX12_phrase_81 : decode cX12_phrase 81 = .ok (.getfield 251, 3) := by decide +kernel
theorem dX12_phrase_84 : decode cX12_phrase 84 = .ok (.bipush 126, 2) := by decide +kernel
theorem dX12_phrase_86 : decode cX12_phrase 86 = .ok (.if_icmp .ne 24, 3) := by decide +kernel
theorem dX12_phrase_89 : decode cX12_phrase 89 = .ok (.aload_n 0, 1) := by decide +kernel
theorem dX12_phrase_90 : decode cX12_phrase 90 = .ok (.invokevirtual 267, 3) := by decide +kernel
theorem dX12_phrase_93 : decode cX12_phrase 93 = .ok (.aload_n 0, 1) := by decide +kernel
theorem dX12_phrase_94 : decode cX12_phrase 94 = .ok (.iconst 0, 1) := by decide +kernel
theorem dX12_phrase_95 : decode cX12_phrase 95 = .ok (.invokevirtual 289, 3) := by decide +kernel
theorem dX12_phrase_98 : decode cX12_phrase 98 = .ok (.istore 4, 2) := by decide +kernel
theorem dX12_phrase_100 : decode cX12_phrase 100 = .ok (.aload_n 0, 1) := by decide +kernel
theorem dX12_phrase_101 : decode cX12_phrase 101 = .ok (.getfield 254, 3) := by decide +kernel
theorem dX12_phrase_104 : decode cX12_phrase 104 = .ok (.iconst (-1), 1) := by decide +kernel
theorem dX12_phrase_105 : decode cX12_phrase 105 = .ok (.if_icmp .eq 5, 3) := by decide +kernel
theorem dX12_phrase_108 : decode cX12_phrase 108 = .ok (.iconst 0, 1) := by decide +kernel
theorem dX12_phrase_109 : decode cX12_phrase 109 = .ok (.ireturn, 1) := by decide +kernel
theorem dX12_phrase_110 : decode cX12_phrase 110 = .ok (.aload_n 0, 1) := by decide +kernel
theorem dX12_phrase_111 : decode cX12_phrase 111 = .ok (.iconst 3, 1) := by decide +kernel
theorem dX12_phrase_112 : decode cX12_phrase 112 = .ok (.iload_n 1, 1) := by decide +kernel
theorem dX12_phrase_113 : decode cX12_phrase 113 = .ok (.iload_n 2, 1) := by decide +kernel
theorem dX12_phrase_114 : decode cX12_phrase 114 = .ok (.bipush 16, 2) := by decide +kernel
theorem dX12_phrase_116 : decode cX12_phrase 116 = .ok (.iload 4, 2) := by decide +kernel
theorem dX12_phrase_118 : decode cX12_phrase 118 = .ok (.imul, 1) := by decide +kernel
theorem dX12_phrase_119 : decode cX12_phrase 119 = .ok (.iload_n 3, 1) := by decide +kernel
theorem dX12_phrase_120 : decode cX12_phrase 120 = .ok (.iadd, 1) := by decide +kernel
theorem dX12_phrase_121 : decode cX12_phrase 121 = .ok (.invokevirtual 273, 3) := by decide +kernel
theorem dX12_phrase_124 : decode cX12_phrase 124 = .ok (.iconst 1, 1) := by decide +kernel
theorem dX12_phrase_125 : decode cX12_phrase 125 = .ok (.ireturn, 1) := by decide +kernel
theorem dX12_endPart_0 : decode cX12_endPart 0 = .ok (.iload_n 1, 1) := by decide +kernel
theorem dX12_endPart_1 : decode cX12_endPart 1 = .ok (.ifCond .eq 11, 3) := by decide +kernel
theorem dX12_endPart_4 : decode cX12_endPart 4 = .ok (.aload_n 0, 1) := by decide +kernel
theorem dX12_endPart_5 : decode cX12_endPart 5 = .ok (.iconst 5, 1) := by decide +kernel
theorem dX12_endPart_6 : decode cX12_endPart 6 = .ok (.iconst 0, 1) := by decide +kernel
theorem dX12_endPart_7 : decode cX12_endPart 7 = .ok (.iconst 0, 1) := by decide +kernel
theorem dX12_endPart_8 : decode cX12_endPart 8 = .ok (.iconst 0, 1) := by decide +kernel
theorem dX12_endPart_9 : decode cX12_endPart 9 = .ok (.invokevirtual 273, 3) := by decide +kernel
theorem dX12_endPart_12 : decode cX12_endPart 12 = .ok (.aload_n 0, 1) := by decide +kernel
theorem dX12_endPart_13 : decode cX12_endPart 13 = .ok (.getfield 251, 3) := by decide +kernel
theorem dX12_endPart_16 : decode cX12_endPart 16 = .ok (.bipush 94, 2) := by decide +kernel
theorem dX12_endPart_18 : decode cX12_endPart 18 = .ok (.if_icmp .ne 31, 3) := by decide +kernel
theorem dX12_endPart_21 : decode cX12_endPart 21 = .ok (.aload_n 0, 1) := by decide +kernel
theorem dX12_endPart_22 : decode cX12_endPart 22 = .ok (.invokevirtual 267, 3) := by decide +kernel
theorem dX12_endPart_25 : decode cX12_endPart 25 = .ok (.aload_n 0, 1) := by decide +kernel
theorem dX12_endPart_26 : decode cX12_endPart 26 = .ok (.iconst 1, 1) := by decide +kernel
theorem dX12_endPart_27 : decode cX12_endPart 27 = .ok (.invokevirtual 289, 3) := by decide +kernel
theorem dX12_endPart_30 : decode cX12_endPart 30 = .ok (.istore_n 2, 1) := by decide +kernel
theorem dX12_endPart_31 : decode cX12_endPart 31 = .ok (.aload_n 0, 1) := by decide +kernel
theorem dX12_endPart_32 : decode cX12_endPart 32 = .ok (.getfield 254, 3) := by decide +kernel
theorem dX12_endPart_35 : decode cX12_endPart 35 = .ok (.iconst (-1), 1) := by decide +kernel
theorem dX12_endPart_36 : decode cX12_endPart 36 = .ok (.if_icmp .eq 4, 3) := by decide +kernel
theorem dX12_endPart_39 : decode cX12_endPart 39 = .ok (.return_, 1) := by decide +kernel
theorem dX12_endPart_40 : decode cX12_endPart 40 = .ok (.aload_n 0, 1) := by decide +kernel
theorem dX12_endPart_41 : decode cX12_endPart 41 = .ok (.bipush 6, 2) := by decide +kernel
theorem dX12_endPart_43 : decode cX12_endPart 43 = .ok (.iconst 0, 1) := by decide +kernel
theorem dX12_endPart_44 : decode cX12_endPart 44 = .ok (.iload_n 2, 1) := by decide +kernel
theorem dX12_endPart_45 : decode cX12_endPart 45 = .ok (.iconst 0, 1) := by decide +kernel
theorem dX12_endPart_46 : decode cX12_endPart 46 = .ok (.invokevirtual 273, 3) := by decide +kernel
theorem dX12_endPart_49 : decode cX12_endPart 49 = .ok (.aload_n 0, 1) := by decide +kernel
theorem dX12_endPart_50 : decode cX12_endPart 50 = .ok (.getfield 127, 3) := by decide +kernel
theorem dX12_endPart_53 : decode cX12_endPart 53 = .ok (.aload_n 0, 1) := by decide +kernel
theorem dX12_endPart_54 : decode cX12_endPart 54 = .ok (.getfield 292, 3) := by decide +kernel
theorem dX12_endPart_57 : decode cX12_endPart 57 = .ok (.dup2, 1) := by decide +kernel
theorem dX12_endPart_58 : decode cX12_endPart 58 = .ok (.iaload, 1) := by decide +kernel
theorem dX12_endPart_59 : decode cX12_endPart 59 = .ok (.iconst 1, 1) := by decide +kernel
theorem dX12_endPart_60 : decode cX12_endPart 60 = .ok (.iadd, 1) := by decide +kernel
theorem dX12_endPart_61 : decode cX12_endPart 61 = .ok (.iastore, 1) := by decide +kernel
theorem dX12_endPart_62 : decode cX12_endPart 62 = .ok (.return_, 1) := by decide +kernel
theorem dX12_endAll_0 : decode cX12_endAll 0 = .ok (.aload_n 0, 1) := by decide +kernel
theorem dX12_endAll_1 : decode cX12_endAll 1 = .ok (.bipush 7, 2) := by decide +kernel
theorem dX12_endAll_3 : decode cX12_endAll 3 = .ok (.iconst 0, 1) := by decide +kernel
theorem dX12_endAll_4 : decode cX12_endAll 4 = .ok (.aload_n 0, 1) := by decide +kernel
theorem dX12_endAll_5 : decode cX12_endAll 5 = .ok (.getfield 127, 3) := by decide +kernel
theorem dX12_endAll_8 : decode cX12_endAll 8 = .ok (.aload_n 0, 1) := by decide +kernel
theorem dX12_endAll_9 : decode cX12_endAll 9 = .ok (.getfield 292, 3) := by decide +kernel
theorem dX12_endAll_12 : decode cX12_endAll 12 = .ok (.iaload, 1) := by decide +kernel
theorem dX12_endAll_13 : decode cX12_endAll 13 = .ok (.iconst 0, 1) := by decide +kernel
theorem dX12_endAll_14 : decode cX12_endAll 14 = .ok (.invokevirtual 273, 3) := by decide +kernel
theorem dX12_endAll_17 : decode cX12_endAll 17 = .ok (.aload_n 0, 1) := by decide +kernel
theorem dX12_endAll_18 : decode cX12_endAll 18 = .ok (.getfield 127, 3) := by decide +kernel
theorem dX12_endAll_21 : decode cX12_endAll 21 = .ok (.aload_n 0, 1) := by decide +kernel
theorem dX12_endAll_22 : decode cX12_endAll 22 = .ok (.getfield 292, 3) := by decide +kernel
theorem dX12_endAll_25 : decode cX12_endAll 25 = .ok (.iconst 0, 1) := by decide +kernel
theorem dX12_endAll_26 : decode cX12_endAll 26 = .ok (.iastore, 1) := by decide +kernel
theorem dX12_endAll_27 : decode cX12_endAll 27 = .ok (.aload_n 0, 1) := by decide +kernel
theorem dX12_endAll_28 : decode cX12_endAll 28 = .ok (.getfield 130, 3) := by decide +kernel
theorem dX12_endAll_31 : decode cX12_endAll 31 = .ok (.aload_n 0, 1) := by decide +kernel
theorem dX12_endAll_32 : decode cX12_endAll 32 = .ok (.getfield 292, 3) := by decide +kernel
theorem dX12_endAll_35 : decode cX12_endAll 35 = .ok (.dup2, 1) := by decide +kernel
theorem dX12_endAll_36 : decode cX12_endAll 36 = .ok (.iaload, 1) := by decide +kernel
theorem dX12_endAll_37 : decode cX12_endAll 37 = .ok (.iconst 1, 1) := by decide +kernel
theorem dX12_endAll_38 : decode cX12_endAll 38 = .ok (.iadd, 1) := by decide +kernel
theorem dX12_endAll_39 : decode cX12_endAll 39 = .ok (.iastore, 1) := by decide +kernel
theorem dX12_endAll_40 : decode cX12_endAll 40 = .ok (.return_, 1) := by decide +kernel
theorem dX12_beginsPart_0 : decode cX12_beginsPart 0 = .ok (.aload_n 0, 1) := by decide +kernel
theorem dX12_beginsPart_1 : decode cX12_beginsPart 1 = .ok (.getfield 251, 3) := by decide +kernel
theorem dX12_beginsPart_4 : decode cX12_beginsPart 4 = .ok (.iconst 1, 1) := by decide +kernel
theorem dX12_beginsPart_5 : decode cX12_beginsPart 5 = .ok (.if_icmp .eq 39, 3) := by decide +kernel
theorem dX12_beginsPart_8 : decode cX12_beginsPart 8 = .ok (.aload_n 0, 1) := by decide +kernel
theorem dX12_beginsPart_9 : decode cX12_beginsPart 9 = .ok (.getfield 251, 3) := by decide +kernel
theorem dX12_beginsPart_12 : decode cX12_beginsPart 12 = .ok (.bipush 40, 2) := by decide +kernel
theorem dX12_beginsPart_14 : decode cX12_beginsPart 14 = .ok (.if_icmp .eq 30, 3) := by decide +kernel
theorem dX12_beginsPart_17 : decode cX12_beginsPart 17 = .ok (.aload_n 0, 1) := by decide +kernel
theorem dX12_beginsPart_18 : decode cX12_beginsPart 18 = .ok (.getfield 251, 3) := by decide +kernel
theorem dX12_beginsPart_21 : decode cX12_beginsPart 21 = .ok (.bipush 45, 2) := by decide +kernel
theorem dX12_beginsPart_23 : decode cX12_beginsPart 23 = .ok (.if_icmp .eq 21, 3) := by decide +kernel
theorem dX12_beginsPart_26 : decode cX12_beginsPart 26 = .ok (.aload_n 0, 1) := by decide +kernel
theorem dX12_beginsPart_27 : decode cX12_beginsPart 27 = .ok (.getfield 251, 3) := by decide +kernel
theorem dX12_beginsPart_30 : decode cX12_beginsPart 30 = .ok (.bipush 34, 2) := by decide +kernel
theorem dX12_beginsPart_32 : decode cX12_beginsPart 32 = .ok (.if_icmp .eq 12, 3) := by decide +kernel
theorem dX12_beginsPart_35 : decode cX12_beginsPart 35 = .ok (.aload_n 0, 1) := by decide +kernel
theorem dX12_beginsPart_36 : decode cX12_beginsPart 36 = .ok (.getfield 251, 3) := by decide +kernel
theorem dX12_beginsPart_39 : decode cX12_beginsPart 39 = .ok (.bipush 91, 2) := by decide +kernel
theorem dX12_beginsPart_41 : decode cX12_beginsPart 41 = .ok (.if_icmp .ne 7, 3) := by decide +kernel
theorem dX12_beginsPart_44 : decode cX12_beginsPart 44 = .ok (.iconst 1, 1) := by decide +kernel
theorem dX12_beginsPart_45 : decode cX12_beginsPart 45 = .ok (.goto 4, 3) := by decide +kernel
theorem dX12_beginsPart_48 : decode cX12_beginsPart 48 = .ok (.iconst 0, 1) := by decide +kernel
theorem dX12_beginsPart_49 : decode cX12_beginsPart 49 = .ok (.ireturn, 1) := by decide +kernel
theorem dX12_readQuery_0 : decode cX12_readQuery 0 = .ok (.aload_n 0, 1) := by decide +kernel
theorem dX12_readQuery_1 : decode cX12_readQuery 1 = .ok (.iconst 0, 1) := by decide +kernel
theorem dX12_readQuery_2 : decode cX12_readQuery 2 = .ok (.putfield 257, 3) := by decide +kernel
theorem dX12_readQuery_5 : decode cX12_readQuery 5 = .ok (.aload_n 0, 1) := by decide +kernel
theorem dX12_readQuery_6 : decode cX12_readQuery 6 = .ok (.iconst 0, 1) := by decide +kernel
theorem dX12_readQuery_7 : decode cX12_readQuery 7 = .ok (.putfield 260, 3) := by decide +kernel
theorem dX12_readQuery_10 : decode cX12_readQuery 10 = .ok (.aload_n 0, 1) := by decide +kernel
theorem dX12_readQuery_11 : decode cX12_readQuery 11 = .ok (.iconst 0, 1) := by decide +kernel
theorem dX12_readQuery_12 : decode cX12_readQuery 12 = .ok (.putfield 295, 3) := by decide +kernel
theorem dX12_readQuery_15 : decode cX12_readQuery 15 = .ok (.aload_n 0, 1) := by decide +kernel
theorem dX12_readQuery_16 : decode cX12_readQuery 16 = .ok (.iconst 0, 1) := by decide +kernel
theorem dX12_readQuery_17 : decode cX12_readQuery 17 = .ok (.putfield 292, 3) := by decide +kernel
theorem dX12_readQuery_20 : decode cX12_readQuery 20 = .ok (.aload_n 0, 1) := by decide +kernel
theorem dX12_readQuery_21 : decode cX12_readQuery 21 = .ok (.iconst 0, 1) := by decide +kernel
theorem dX12_readQuery_22 : decode cX12_readQuery 22 = .ok (.putfield 298, 3) := by decide +kernel
theorem dX12_readQuery_25 : decode cX12_readQuery 25 = .ok (.aload_n 0, 1) := by decide +kernel
theorem dX12_readQuery_26 : decode cX12_readQuery 26 = .ok (.getfield 127, 3) := by decide +kernel
theorem dX12_readQuery_29 : decode cX12_readQuery 29 = .ok (.iconst 0, 1) := by decide +kernel
theorem dX12_readQuery_30 : decode cX12_readQuery 30 = .ok (.iconst 0, 1) := by decide +kernel
theorem dX12_readQuery_31 : decode cX12_readQuery 31 = .ok (.iastore, 1) := by decide +kernel
theorem dX12_readQuery_32 : decode cX12_readQuery 32 = .ok (.aload_n 0, 1) := by decide +kernel
theorem dX12_readQuery_33 : decode cX12_readQuery 33 = .ok (.getfield 130, 3) := by decide +kernel
theorem dX12_readQuery_36 : decode cX12_readQuery 36 = .ok (.iconst 0, 1) := by decide +kernel
theorem dX12_readQuery_37 : decode cX12_readQuery 37 = .ok (.iconst 0, 1) := by decide +kernel
theorem dX12_readQuery_38 : decode cX12_readQuery 38 = .ok (.iastore, 1) := by decide +kernel
theorem dX12_readQuery_39 : decode cX12_readQuery 39 = .ok (.iconst 1, 1) := by decide +kernel
theorem dX12_readQuery_40 : decode cX12_readQuery 40 = .ok (.istore_n 1, 1) := by decide +kernel
theorem dX12_readQuery_41 : decode cX12_readQuery 41 = .ok (.iconst 0, 1) := by decide +kernel
theorem dX12_readQuery_42 : decode cX12_readQuery 42 = .ok (.istore_n 2, 1) := by decide +kernel
theorem dX12_readQuery_43 : decode cX12_readQuery 43 = .ok (.aload_n 0, 1) := by decide +kernel
theorem dX12_readQuery_44 : decode cX12_readQuery 44 = .ok (.invokevirtual 267, 3) := by decide +kernel
theorem dX12_readQuery_47 : decode cX12_readQuery 47 = .ok (.aload_n 0, 1) := by decide +kernel
theorem dX12_readQuery_48 : decode cX12_readQuery 48 = .ok (.getfield 254, 3) := by decide +kernel
theorem dX12_readQuery_51 : decode cX12_readQuery 51 = .ok (.iconst (-1), 1) := by decide +kernel
theorem dX12_readQuery_52 : decode cX12_readQuery 52 = .ok (.if_icmp .ne 168, 3) := by decide +kernel
theorem dX12_readQuery_55 : decode cX12_readQuery 55 = .ok (.iload_n 2, 1) := by decide +kernel
theorem dX12_readQuery_56 : decode cX12_readQuery 56 = .ok (.ifCond .ne 164, 3) := by decide +kernel
theorem dX12_readQuery_59 : decode cX12_readQuery 59 = .ok (.aload_n 0, 1) := by decide +kernel
theorem dX12_readQuery_60 : decode cX12_readQuery 60 = .ok (.invokevirtual 301, 3) := by decide +kernel
theorem dX12_readQuery_63 : decode cX12_readQuery 63 = .ok (.ifCond .eq 11, 3) := by decide +kernel
theorem dX12_readQuery_66 : decode cX12_readQuery 66 = .ok (.aload_n 0, 1) := by decide +kernel
theorem dX12_readQuery_67 : decode cX12_readQuery 67 = .ok (.invokevirtual 304, 3) := by decide +kernel
theorem dX12_readQuery_70 : decode cX12_readQuery 70 = .ok (.istore_n 1, 1) := by decide +kernel
theorem dX12_readQuery_71 : decode cX12_readQuery 71 = .ok (.goto (-24), 3) := by decide +kernel
theorem dX12_readQuery_74 : decode cX12_readQuery 74 = .ok (.aload_n 0, 1) := by decide +kernel
theorem dX12_readQuery_75 : decode cX12_readQuery 75 = .ok (.getfield 251, 3) := by decide +kernel
theorem dX12_readQuery_78 : decode cX12_readQuery 78 = .ok (.bipush 124, 2) := by decide +kernel
theorem dX12_readQuery_80 : decode cX12_readQuery 80 = .ok (.if_icmp .ne 20, 3) := by decide +kernel
theorem dX12_readQuery_83 : decode cX12_readQuery 83 = .ok (.iload_n 1, 1) := by decide +kernel
theorem dX12_readQuery_84 : decode cX12_readQuery 84 = .ok (.ifCond .ne 16, 3) := by decide +kernel
theorem dX12_readQuery_87 : decode cX12_readQuery 87 = .ok (.aload_n 0, 1) := by decide +kernel
theorem dX12_readQuery_88 : decode cX12_readQuery 88 = .ok (.invokevirtual 307, 3) := by decide +kernel
theorem dX12_readQuery_91 : decode cX12_readQuery 91 = .ok (.aload_n 0, 1) := by decide +kernel
theorem dX12_readQuery_92 : decode cX12_readQuery 92 = .ok (.invokevirtual 267, 3) := by decide +kernel
theorem dX12_readQuery_95 : decode cX12_readQuery 95 = .ok (.iconst 1, 1) := by decide +kernel
theorem dX12_readQuery_96 : decode cX12_readQuery 96 = .ok (.istore_n 1, 1) := by decide +kernel
theorem dX12_readQuery_97 : decode cX12_readQuery 97 = .ok (.goto (-50), 3) := by decide +kernel
theorem dX12_readQuery_100 : decode cX12_readQuery 100 = .ok (.aload_n 0, 1) := by decide +kernel
theorem dX12_readQuery_101 : decode cX12_readQuery 101 = .ok (.getfield 251, 3) := by decide +kernel
theorem dX12_readQuery_104 : decode cX12_readQuery 104 = .ok (.bipush 41, 2) := by decide +kernel
theorem dX12_readQuery_106 : decode cX12_readQuery 106 = .ok (.if_icmp .ne 65, 3) := by decide +kernel
theorem dX12_readQuery_109 : decode cX12_readQuery 109 = .ok (.iload_n 1, 1) := by decide +kernel
theorem dX12_readQuery_110 : decode cX12_readQuery 110 = .ok (.ifCond .ne 61, 3) := by decide +kernel
theorem dX12_readQuery_113 : decode cX12_readQuery 113 = .ok (.aload_n 0, 1) := by decide +kernel
theorem dX12_readQuery_114 : decode cX12_readQuery 114 = .ok (.getfield 292, 3) := by decide +kernel
theorem dX12_readQuery_117 : decode cX12_readQuery 117 = .ok (.ifCond .le 54, 3) := by decide +kernel
theorem dX12_readQuery_120 : decode cX12_readQuery 120 = .ok (.aload_n 0, 1) := by decide +kernel
theorem dX12_readQuery_121 : decode cX12_readQuery 121 = .ok (.invokevirtual 307, 3) := by decide +kernel
theorem dX12_readQuery_124 : decode cX12_readQuery 124 = .ok (.aload_n 0, 1) := by decide +kernel
theorem dX12_readQuery_125 : decode cX12_readQuery 125 = .ok (.bipush 8, 2) := by decide +kernel
theorem dX12_readQuery_127 : decode cX12_readQuery 127 = .ok (.iconst 0, 1) := by decide +kernel
theorem dX12_readQuery_128 : decode cX12_readQuery 128 = .ok (.aload_n 0, 1) := by decide +kernel
theorem dX12_readQuery_129 : decode cX12_readQuery 129 = .ok (.getfield 130, 3) := by decide +kernel
theorem dX12_readQuery_132 : decode cX12_readQuery 132 = .ok (.aload_n 0, 1) := by decide +kernel
theorem dX12_readQuery_133 : decode cX12_readQuery 133 = .ok (.getfield 292, 3) := by decide +kernel
theorem dX12_readQuery_136 : decode cX12_readQuery 136 = .ok (.iaload, 1) := by decide +kernel
theorem dX12_readQuery_137 : decode cX12_readQuery 137 = .ok (.iconst 0, 1) := by decide +kernel
theorem dX12_readQuery_138 : decode cX12_readQuery 138 = .ok (.invokevirtual 273, 3) := by decide +kernel
theorem dX12_readQuery_141 : decode cX12_readQuery 141 = .ok (.aload_n 0, 1) := by decide +kernel
theorem dX12_readQuery_142 : decode cX12_readQuery 142 = .ok (.dup, 1) := by decide +kernel
theorem dX12_readQuery_143 : decode cX12_readQuery 143 = .ok (.getfield 292, 3) := by decide +kernel
theorem dX12_readQuery_146 : decode cX12_readQuery 146 = .ok (.iconst 1, 1) := by decide +kernel
theorem dX12_readQuery_147 : decode cX12_readQuery 147 = .ok (.isub, 1) := by decide +kernel
theorem dX12_readQuery_148 : decode cX12_readQuery 148 = .ok (.putfield 292, 3) := by decide +kernel
theorem dX12_readQuery_151 : decode cX12_readQuery 151 = .ok (.aload_n 0, 1) := by decide +kernel
theorem dX12_readQuery_152 : decode cX12_readQuery 152 = .ok (.invokevirtual 267, 3) := by decide +kernel
theorem dX12_readQuery_155 : decode cX12_readQuery 155 = .ok (.aload_n 0, 1) := by decide +kernel
theorem dX12_readQuery_156 : decode cX12_readQuery 156 = .ok (.aload_n 0, 1) := by decide +kernel
theorem dX12_readQuery_157 : decode cX12_readQuery 157 = .ok (.getfield 133, 3) := by decide +kernel
theorem dX12_readQuery_160 : decode cX12_readQuery 160 = .ok (.aload_n 0, 1) := by decide +kernel
theorem dX12_readQuery_161 : decode cX12_readQuery 161 = .ok (.getfield 292, 3) := by decide +kernel
theorem dX12_readQuery_164 : decode cX12_readQuery 164 = .ok (.baload, 1) := by decide +kernel
theorem dX12_readQuery_165 : decode cX12_readQuery 165 = .ok (.invokevirtual 310, 3) := by decide +kernel
theorem dX12_readQuery_168 : decode cX12_readQuery 168 = .ok (.goto (-121), 3) := by decide +kernel
theorem dX12_readQuery_171 : decode cX12_readQuery 171 = .ok (.aload_n 0, 1) := by decide +kernel
theorem dX12_readQuery_172 : decode cX12_readQuery 172 = .ok (.getfield 251, 3) := by decide +kernel
theorem dX12_readQuery_175 : decode cX12_readQuery 175 = .ok (.ifCond .ne 37, 3) := by decide +kernel
theorem dX12_readQuery_178 : decode cX12_readQuery 178 = .ok (.iload_n 1, 1) := by decide +kernel
theorem dX12_readQuery_179 : decode cX12_readQuery 179 = .ok (.ifCond .ne 33, 3) := by decide +kernel
theorem dX12_readQuery_182 : decode cX12_readQuery 182 = .ok (.aload_n 0, 1) := by decide +kernel
theorem dX12_readQuery_183 : decode cX12_readQuery 183 = .ok (.getfield 292, 3) := by decide +kernel
theorem dX12_readQuery_186 : decode cX12_readQuery 186 = .ok (.ifCond .ne 26, 3) := by decide +kernel
theorem dX12_readQuery_189 : decode cX12_readQuery 189 = .ok (.aload_n 0, 1) := by decide +kernel
theorem dX12_readQuery_190 : decode cX12_readQuery 190 = .ok (.invokevirtual 307, 3) := by decide +kernel
theorem dX12_readQuery_193 : decode cX12_readQuery 193 = .ok (.aload_n 0, 1) := by decide +kernel
theorem dX12_readQuery_194 : decode cX12_readQuery 194 = .ok (.bipush 8, 2) := by decide +kernel
theorem dX12_readQuery_196 : decode cX12_readQuery 196 = .ok (.iconst 0, 1) := by decide +kernel
theorem dX12_readQuery_197 : decode cX12_readQuery 197 = .ok (.aload_n 0, 1) := by decide +kernel
theorem dX12_readQuery_198 : decode cX12_readQuery 198 = .ok (.getfield 130, 3) := by decide +kernel
theorem dX12_readQuery_201 : decode cX12_readQuery 201 = .ok (.iconst 0, 1) := by decide +kernel
theorem dX12_readQuery_202 : decode cX12_readQuery 202 = .ok (.iaload, 1) := by decide +kernel
theorem dX12_readQuery_203 : decode cX12_readQuery 203 = .ok (.iconst 0, 1) := by decide +kernel
theorem dX12_readQuery_204 : decode cX12_readQuery 204 = .ok (.invokevirtual 273, 3) := by decide +kernel
theorem dX12_readQuery_207 : decode cX12_readQuery 207 = .ok (.iconst 1, 1) := by decide +kernel
theorem dX12_readQuery_208 : decode cX12_readQuery 208 = .ok (.istore_n 2, 1) := by decide +kernel
theorem dX12_readQuery_209 : decode cX12_readQuery 209 = .ok (.goto (-162), 3) := by decide +kernel
theorem dX12_readQuery_212 : decode cX12_readQuery 212 = .ok (.aload_n 0, 1) := by decide +kernel
theorem dX12_readQuery_213 : decode cX12_readQuery 213 = .ok (.invokevirtual 263, 3) := by decide +kernel
theorem dX12_readQuery_216 : decode cX12_readQuery 216 = .ok (.pop, 1) := by decide +kernel
theorem dX12_readQuery_217 : decode cX12_readQuery 217 = .ok (.goto (-170), 3) := by decide +kernel
theorem dX12_readQuery_220 : decode cX12_readQuery 220 = .ok (.return_, 1) := by decide +kernel
theorem dX12_part_0 : decode cX12_part 0 = .ok (.aload_n 0, 1) := by decide +kernel
theorem dX12_part_1 : decode cX12_part 1 = .ok (.dup, 1) := by decide +kernel
theorem dX12_part_2 : decode cX12_part 2 = .ok (.getfield 298, 3) := by decide +kernel
theorem dX12_part_5 : decode cX12_part 5 = .ok (.iconst 1, 1) := by decide +kernel
theorem dX12_part_6 : decode cX12_part 6 = .ok (.iadd, 1) := by decide +kernel
theorem dX12_part_7 : decode cX12_part 7 = .ok (.putfield 298, 3) := by decide +kernel
theorem dX12_part_10 : decode cX12_part 10 = .ok (.aload_n 0, 1) := by decide +kernel
theorem dX12_part_11 : decode cX12_part 11 = .ok (.getfield 298, 3) := by decide +kernel
theorem dX12_part_14 : decode cX12_part 14 = .ok (.bipush 40, 2) := by decide +kernel
theorem dX12_part_16 : decode cX12_part 16 = .ok (.if_icmp .le 8, 3) := by decide +kernel
theorem dX12_part_19 : decode cX12_part 19 = .ok (.aload_n 0, 1) := by decide +kernel
theorem dX12_part_20 : decode cX12_part 20 = .ok (.invokevirtual 263, 3) := by decide +kernel
theorem dX12_part_23 : decode cX12_part 23 = .ok (.ireturn, 1) := by decide +kernel
theorem dX12_part_24 : decode cX12_part 24 = .ok (.aload_n 0, 1) := by decide +kernel
theorem dX12_part_25 : decode cX12_part 25 = .ok (.getfield 251, 3) := by decide +kernel
theorem dX12_part_28 : decode cX12_part 28 = .ok (.bipush 45, 2) := by decide +kernel
theorem dX12_part_30 : decode cX12_part 30 = .ok (.if_icmp .ne 7, 3) := by decide +kernel
theorem dX12_part_33 : decode cX12_part 33 = .ok (.iconst 1, 1) := by decide +kernel
theorem dX12_part_34 : decode cX12_part 34 = .ok (.goto 4, 3) := by decide +kernel
theorem dX12_part_37 : decode cX12_part 37 = .ok (.iconst 0, 1) := by decide +kernel
theorem dX12_part_38 : decode cX12_part 38 = .ok (.istore_n 1, 1) := by decide +kernel
theorem dX12_part_39 : decode cX12_part 39 = .ok (.iload_n 1, 1) := by decide +kernel
theorem dX12_part_40 : decode cX12_part 40 = .ok (.ifCond .eq 7, 3) := by decide +kernel
theorem dX12_part_43 : decode cX12_part 43 = .ok (.aload_n 0, 1) := by decide +kernel
theorem dX12_part_44 : decode cX12_part 44 = .ok (.invokevirtual 267, 3) := by decide +kernel
theorem dX12_part_47 : decode cX12_part 47 = .ok (.aload_n 0, 1) := by decide +kernel
theorem dX12_part_48 : decode cX12_part 48 = .ok (.getfield 251, 3) := by decide +kernel
theorem dX12_part_51 : decode cX12_part 51 = .ok (.bipush 40, 2) := by decide +kernel
theorem dX12_part_53 : decode cX12_part 53 = .ok (.if_icmp .ne 63, 3) := by decide +kernel
theorem dX12_part_56 : decode cX12_part 56 = .ok (.aload_n 0, 1) := by decide +kernel
theorem dX12_part_57 : decode cX12_part 57 = .ok (.getfield 292, 3) := by decide +kernel
theorem dX12_part_60 : decode cX12_part 60 = .ok (.bipush 8, 2) := by decide +kernel
theorem dX12_part_62 : decode cX12_part 62 = .ok (.if_icmp .ne 8, 3) := by decide +kernel
theorem dX12_part_65 : decode cX12_part 65 = .ok (.aload_n 0, 1) := by decide +kernel
theorem dX12_part_66 : decode cX12_part 66 = .ok (.invokevirtual 263, 3) := by decide +kernel
theorem dX12_part_69 : decode cX12_part 69 = .ok (.ireturn, 1) := by decide +kernel
theorem dX12_part_70 : decode cX12_part 70 = .ok (.aload_n 0, 1) := by decide +kernel
theorem dX12_part_71 : decode cX12_part 71 = .ok (.getfield 133, 3) := by decide +kernel
theorem dX12_part_74 : decode cX12_part 74 = .ok (.aload_n 0, 1) := by decide +kernel
theorem dX12_part_75 : decode cX12_part 75 = .ok (.getfield 292, 3) := by decide +kernel
theorem dX12_part_78 : decode cX12_part 78 = .ok (.iload_n 1, 1) := by decide +kernel
theorem dX12_part_79 : decode cX12_part 79 = .ok (.bastore, 1) := by decide +kernel
theorem dX12_part_80 : decode cX12_part 80 = .ok (.aload_n 0, 1) := by decide +kernel
theorem dX12_part_81 : decode cX12_part 81 = .ok (.dup, 1) := by decide +kernel
theorem dX12_part_82 : decode cX12_part 82 = .ok (.getfield 292, 3) := by decide +kernel
theorem dX12_part_85 : decode cX12_part 85 = .ok (.iconst 1, 1) := by decide +kernel
theorem dX12_part_86 : decode cX12_part 86 = .ok (.iadd, 1) := by decide +kernel
theorem dX12_part_87 : decode cX12_part 87 = .ok (.putfield 292, 3) := by decide +kernel
theorem dX12_part_90 : decode cX12_part 90 = .ok (.aload_n 0, 1) := by decide +kernel
theorem dX12_part_91 : decode cX12_part 91 = .ok (.getfield 127, 3) := by decide +kernel
theorem dX12_part_94 : decode cX12_part 94 = .ok (.aload_n 0, 1) := by decide +kernel
theorem dX12_part_95 : decode cX12_part 95 = .ok (.getfield 292, 3) := by decide +kernel
theorem dX12_part_98 : decode cX12_part 98 = .ok (.iconst 0, 1) := by decide +kernel
theorem dX12_part_99 : decode cX12_part 99 = .ok (.iastore, 1) := by decide +kernel
theorem dX12_part_100 : decode cX12_part 100 = .ok (.aload_n 0, 1) := by decide +kernel
theorem dX12_part_101 : decode cX12_part 101 = .ok (.getfield 130, 3) := by decide +kernel
theorem dX12_part_104 : decode cX12_part 104 = .ok (.aload_n 0, 1) := by decide +kernel
theorem dX12_part_105 : decode cX12_part 105 = .ok (.getfield 292, 3) := by decide +kernel
theorem dX12_part_108 : decode cX12_part 108 = .ok (.iconst 0, 1) := by decide +kernel
theorem dX12_part_109 : decode cX12_part 109 = .ok (.iastore, 1) := by decide +kernel
theorem dX12_part_110 : decode cX12_part 110 = .ok (.aload_n 0, 1) := by decide +kernel
theorem dX12_part_111 : decode cX12_part 111 = .ok (.invokevirtual 267, 3) := by decide +kernel
theorem dX12_part_114 : decode cX12_part 114 = .ok (.iconst 1, 1) := by decide +kernel
theorem dX12_part_115 : decode cX12_part 115 = .ok (.ireturn, 1) := by decide +kernel
theorem dX12_part_116 : decode cX12_part 116 = .ok (.aload_n 0, 1) := by decide +kernel
theorem dX12_part_117 : decode cX12_part 117 = .ok (.getfield 257, 3) := by decide +kernel
theorem dX12_part_120 : decode cX12_part 120 = .ok (.istore_n 2, 1) := by decide +kernel
theorem dX12_part_121 : decode cX12_part 121 = .ok (.aload_n 0, 1) := by decide +kernel
theorem dX12_part_122 : decode cX12_part 122 = .ok (.invokevirtual 314, 3) := by decide +kernel
theorem dX12_part_125 : decode cX12_part 125 = .ok (.ifCond .ne 5, 3) := by decide +kernel
theorem dX12_part_128 : decode cX12_part 128 = .ok (.iconst 0, 1) := by decide +kernel
theorem dX12_part_129 : decode cX12_part 129 = .ok (.ireturn, 1) := by decide +kernel
theorem dX12_part_130 : decode cX12_part 130 = .ok (.iload_n 1, 1) := by decide +kernel
theorem dX12_part_131 : decode cX12_part 131 = .ok (.ifCond .ne 15, 3) := by decide +kernel
theorem dX12_part_134 : decode cX12_part 134 = .ok (.aload_n 0, 1) := by decide +kernel
theorem dX12_part_135 : decode cX12_part 135 = .ok (.invokevirtual 317, 3) := by decide +kernel
theorem dX12_part_138 : decode cX12_part 138 = .ok (.ifCond .ne 8, 3) := by decide +kernel
theorem dX12_part_141 : decode cX12_part 141 = .ok (.aload_n 0, 1) := by decide +kernel
theorem dX12_part_142 : decode cX12_part 142 = .ok (.iload_n 2, 1) := by decide +kernel
theorem dX12_part_143 : decode cX12_part 143 = .ok (.invokevirtual 320, 3) := by decide +kernel
theorem dX12_part_146 : decode cX12_part 146 = .ok (.aload_n 0, 1) := by decide +kernel
theorem dX12_part_147 : decode cX12_part 147 = .ok (.iload_n 1, 1) := by decide +kernel
theorem dX12_part_148 : decode cX12_part 148 = .ok (.invokevirtual 310, 3) := by decide +kernel
theorem dX12_part_151 : decode cX12_part 151 = .ok (.iconst 0, 1) := by decide +kernel
theorem dX12_part_152 : decode cX12_part 152 = .ok (.ireturn, 1) := by decide +kernel
theorem dX12_isWithinMinus_0 : decode cX12_isWithinMinus 0 = .ok (.iconst 0, 1) := by decide +kernel
theorem dX12_isWithinMinus_1 : decode cX12_isWithinMinus 1 = .ok (.istore_n 1, 1) := by decide +kernel
theorem dX12_isWithinMinus_2 : decode cX12_isWithinMinus 2 = .ok (.iconst 0, 1) := by decide +kernel
theorem dX12_isWithinMinus_3 : decode cX12_isWithinMinus 3 = .ok (.istore_n 2, 1) := by decide +kernel
theorem dX12_isWithinMinus_4 : decode cX12_isWithinMinus 4 = .ok (.iload_n 2, 1) := by decide +kernel
theorem dX12_isWithinMinus_5 : decode cX12_isWithinMinus 5 = .ok (.aload_n 0, 1) := by decide +kernel
theorem dX12_isWithinMinus_6 : decode cX12_isWithinMinus 6 = .ok (.getfield 292, 3) := by decide +kernel
theorem dX12_isWithinMinus_9 : decode cX12_isWithinMinus 9 = .ok (.if_icmp .ge 28, 3) := by decide +kernel
theorem dX12_isWithinMinus_12 : decode cX12_isWithinMinus 12 = .ok (.iload_n 1, 1) := by decide +kernel
theorem dX12_isWithinMinus_13 : decode cX12_isWithinMinus 13 = .ok (.ifCond .ne 12, 3) := by decide +kernel
theorem dX12_isWithinMinus_16 : decode cX12_isWithinMinus 16 = .ok (.aload_n 0, 1) := by decide +kernel
theorem dX12_isWithinMinus_17 : decode cX12_isWithinMinus 17 = .ok (.getfield 133, 3) := by decide +kernel
theorem dX12_isWithinMinus_20 : decode cX12_isWithinMinus 20 = .ok (.iload_n 2, 1) := by decide +kernel
theorem dX12_isWithinMinus_21 : decode cX12_isWithinMinus 21 = .ok (.baload, 1) := by decide +kernel
theorem dX12_isWithinMinus_22 : decode cX12_isWithinMinus 22 = .ok (.ifCond .eq 7, 3) := by decide +kernel
theorem dX12_isWithinMinus_25 : decode cX12_isWithinMinus 25 = .ok (.iconst 1, 1) := by decide +kernel
theorem dX12_isWithinMinus_26 : decode cX12_isWithinMinus 26 = .ok (.goto 4, 3) := by decide +kernel
theorem dX12_isWithinMinus_29 : decode cX12_isWithinMinus 29 = .ok (.iconst 0, 1) := by decide +kernel
theorem dX12_isWithinMinus_30 : decode cX12_isWithinMinus 30 = .ok (.istore_n 1, 1) := by decide +kernel
theorem dX12_isWithinMinus_31 : decode cX12_isWithinMinus 31 = .ok (.iinc 2 1, 3) := by decide +kernel
theorem dX12_isWithinMinus_34 : decode cX12_isWithinMinus 34 = .ok (.goto (-30), 3) := by decide +kernel
theorem dX12_isWithinMinus_37 : decode cX12_isWithinMinus 37 = .ok (.iload_n 1, 1) := by decide +kernel
theorem dX12_isWithinMinus_38 : decode cX12_isWithinMinus 38 = .ok (.ireturn, 1) := by decide +kernel
theorem dX12_mark_0 : decode cX12_mark 0 = .ok (.aload_n 0, 1) := by decide +kernel
theorem dX12_mark_1 : decode cX12_mark 1 = .ok (.getfield 106, 3) := by decide +kernel
theorem dX12_mark_4 : decode cX12_mark 4 = .ok (.iload_n 1, 1) := by decide +kernel
theorem dX12_mark_5 : decode cX12_mark 5 = .ok (.iaload, 1) := by decide +kernel
theorem dX12_mark_6 : decode cX12_mark 6 = .ok (.iconst 4, 1) := by decide +kernel
theorem dX12_mark_7 : decode cX12_mark 7 = .ok (.if_icmp .ne 4, 3) := by decide +kernel
theorem dX12_mark_10 : decode cX12_mark 10 = .ok (.return_, 1) := by decide +kernel
theorem dX12_mark_11 : decode cX12_mark 11 = .ok (.aload_n 0, 1) := by decide +kernel
theorem dX12_mark_12 : decode cX12_mark 12 = .ok (.getfield 106, 3) := by decide +kernel
theorem dX12_mark_15 : decode cX12_mark 15 = .ok (.iload_n 1, 1) := by decide +kernel
theorem dX12_mark_16 : decode cX12_mark 16 = .ok (.iaload, 1) := by decide +kernel
theorem dX12_mark_17 : decode cX12_mark 17 = .ok (.iconst 3, 1) := by decide +kernel
theorem dX12_mark_18 : decode cX12_mark 18 = .ok (.if_icmp .ne 15, 3) := by decide +kernel
theorem dX12_mark_21 : decode cX12_mark 21 = .ok (.aload_n 0, 1) := by decide +kernel
theorem dX12_mark_22 : decode cX12_mark 22 = .ok (.getfield 115, 3) := by decide +kernel
theorem dX12_mark_25 : decode cX12_mark 25 = .ok (.iload_n 1, 1) := by decide +kernel
theorem dX12_mark_26 : decode cX12_mark 26 = .ok (.iaload, 1) := by decide +kernel
theorem dX12_mark_27 : decode cX12_mark 27 = .ok (.bipush 16, 2) := by decide +kernel
theorem dX12_mark_29 : decode cX12_mark 29 = .ok (.irem, 1) := by decide +kernel
theorem dX12_mark_30 : decode cX12_mark 30 = .ok (.goto 4, 3) := by decide +kernel
theorem dX12_mark_33 : decode cX12_mark 33 = .ok (.iconst 1, 1) := by decide +kernel
theorem dX12_mark_34 : decode cX12_mark 34 = .ok (.istore_n 2, 1) := by decide +kernel
theorem dX12_mark_35 : decode cX12_mark 35 = .ok (.iconst 0, 1) := by decide +kernel
theorem dX12_mark_36 : decode cX12_mark 36 = .ok (.istore_n 3, 1) := by decide +kernel
theorem dX12_mark_37 : decode cX12_mark 37 = .ok (.iload_n 3, 1) := by decide +kernel
theorem dX12_mark_38 : decode cX12_mark 38 = .ok (.iload_n 2, 1) := by decide +kernel
theorem dX12_mark_39 : decode cX12_mark 39 = .ok (.if_icmp .ge 94, 3) := by decide +kernel
theorem dX12_mark_42 : decode cX12_mark 42 = .ok (.aload_n 0, 1) := by decide +kernel
theorem dX12_mark_43 : decode cX12_mark 43 = .ok (.getfield 118, 3) := by decide +kernel
theorem dX12_mark_46 : decode cX12_mark 46 = .ok (.aload_n 0, 1) := by decide +kernel
theorem dX12_mark_47 : decode cX12_mark 47 = .ok (.getfield 112, 3) := by decide +kernel
theorem dX12_mark_50 : decode cX12_mark 50 = .ok (.iload_n 1, 1) := by decide +kernel
theorem dX12_mark_51 : decode cX12_mark 51 = .ok (.iaload, 1) := by decide +kernel
theorem dX12_mark_52 : decode cX12_mark 52 = .ok (.iload_n 3, 1) := by decide +kernel
theorem dX12_mark_53 : decode cX12_mark 53 = .ok (.iadd, 1) := by decide +kernel
theorem dX12_mark_54 : decode cX12_mark 54 = .ok (.iaload, 1) := by decide +kernel
theorem dX12_mark_55 : decode cX12_mark 55 = .ok (.ifCond .ne 6, 3) := by decide +kernel
theorem dX12_mark_58 : decode cX12_mark 58 = .ok (.goto 69, 3) := by decide +kernel
theorem dX12_mark_61 : decode cX12_mark 61 = .ok (.aload_n 0, 1) := by decide +kernel
theorem dX12_mark_62 : decode cX12_mark 62 = .ok (.getfield 136, 3) := by decide +kernel
theorem dX12_mark_65 : decode cX12_mark 65 = .ok (.aload_n 0, 1) := by decide +kernel
theorem dX12_mark_66 : decode cX12_mark 66 = .ok (.getfield 295, 3) := by decide +kernel
theorem dX12_mark_69 : decode cX12_mark 69 = .ok (.aload_n 0, 1) := by decide +kernel
theorem dX12_mark_70 : decode cX12_mark 70 = .ok (.getfield 106, 3) := by decide +kernel
theorem dX12_mark_73 : decode cX12_mark 73 = .ok (.iload_n 1, 1) := by decide +kernel
theorem dX12_mark_74 : decode cX12_mark 74 = .ok (.iaload, 1) := by decide +kernel
theorem dX12_mark_75 : decode cX12_mark 75 = .ok (.iconst 2, 1) := by decide +kernel
theorem dX12_mark_76 : decode cX12_mark 76 = .ok (.if_icmp .ne 7, 3) := by decide +kernel
theorem dX12_mark_79 : decode cX12_mark 79 = .ok (.iconst 2, 1) := by decide +kernel
theorem dX12_mark_80 : decode cX12_mark 80 = .ok (.goto 4, 3) := by decide +kernel
theorem dX12_mark_83 : decode cX12_mark 83 = .ok (.iconst 1, 1) := by decide +kernel
theorem dX12_mark_84 : decode cX12_mark 84 = .ok (.iastore, 1) := by decide +kernel
theorem dX12_mark_85 : decode cX12_mark 85 = .ok (.aload_n 0, 1) := by decide +kernel
theorem dX12_mark_86 : decode cX12_mark 86 = .ok (.getfield 139, 3) := by decide +kernel
theorem dX12_mark_89 : decode cX12_mark 89 = .ok (.aload_n 0, 1) := by decide +kernel
theorem dX12_mark_90 : decode cX12_mark 90 = .ok (.getfield 295, 3) := by decide +kernel
theorem dX12_mark_93 : decode cX12_mark 93 = .ok (.aload_n 0, 1) := by decide +kernel
theorem dX12_mark_94 : decode cX12_mark 94 = .ok (.getfield 109, 3) := by decide +kernel
theorem dX12_mark_97 : decode cX12_mark 97 = .ok (.iload_n 1, 1) := by decide +kernel
theorem dX12_mark_98 : decode cX12_mark 98 = .ok (.iaload, 1) := by decide +kernel
theorem dX12_mark_99 : decode cX12_mark 99 = .ok (.iastore, 1) := by decide +kernel
theorem dX12_mark_100 : decode cX12_mark 100 = .ok (.aload_n 0, 1) := by decide +kernel
theorem dX12_mark_101 : decode cX12_mark 101 = .ok (.getfield 142, 3) := by decide +kernel
theorem dX12_mark_104 : decode cX12_mark 104 = .ok (.aload_n 0, 1) := by decide +kernel
theorem dX12_mark_105 : decode cX12_mark 105 = .ok (.getfield 295, 3) := by decide +kernel
theorem dX12_mark_108 : decode cX12_mark 108 = .ok (.aload_n 0, 1) := by decide +kernel
theorem dX12_mark_109 : decode cX12_mark 109 = .ok (.getfield 112, 3) := by decide +kernel
theorem dX12_mark_112 : decode cX12_mark 112 = .ok (.iload_n 1, 1) := by decide +kernel
theorem dX12_mark_113 : decode cX12_mark 113 = .ok (.iaload, 1) := by decide +kernel
theorem dX12_mark_114 : decode cX12_mark 114 = .ok (.iload_n 3, 1) := by decide +kernel
theorem dX12_mark_115 : decode cX12_mark 115 = .ok (.iadd, 1) := by decide +kernel
theorem dX12_mark_116 : decode cX12_mark 116 = .ok (.iastore, 1) := by decide +kernel
theorem dX12_mark_117 : decode cX12_mark 117 = .ok (.aload_n 0, 1) := by decide +kernel
theorem dX12_mark_118 : decode cX12_mark 118 = .ok (.dup, 1) := by decide +kernel
theorem dX12_mark_119 : decode cX12_mark 119 = .ok (.getfield 295, 3) := by decide +kernel
theorem dX12_mark_122 : decode cX12_mark 122 = .ok (.iconst 1, 1) := by decide +kernel
theorem dX12_mark_123 : decode cX12_mark 123 = .ok (.iadd, 1) := by decide +kernel
theorem dX12_mark_124 : decode cX12_mark 124 = .ok (.putfield 295, 3) := by decide +kernel
theorem dX12_mark_127 : decode cX12_mark 127 = .ok (.iinc 3 1, 3) := by decide +kernel
theorem dX12_mark_130 : decode cX12_mark 130 = .ok (.goto (-93), 3) := by decide +kernel
theorem dX12_mark_133 : decode cX12_mark 133 = .ok (.return_, 1) := by decide +kernel
theorem dX12_isToken_0 : decode cX12_isToken 0 = .ok (.aload_n 0, 1) := by decide +kernel
theorem dX12_isToken_1 : decode cX12_isToken 1 = .ok (.getfield 37, 3) := by decide +kernel
theorem dX12_isToken_4 : decode cX12_isToken 4 = .ok (.iload_n 1, 1) := by decide +kernel
theorem dX12_isToken_5 : decode cX12_isToken 5 = .ok (.iaload, 1) := by decide +kernel
theorem dX12_isToken_6 : decode cX12_isToken 6 = .ok (.aload_n 0, 1) := by decide +kernel
theorem dX12_isToken_7 : decode cX12_isToken 7 = .ok (.getfield 118, 3) := by decide +kernel
theorem dX12_isToken_10 : decode cX12_isToken 10 = .ok (.iload_n 2, 1) := by decide +kernel
