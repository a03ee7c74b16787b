/-! EndlessRowsModel: decode rows and verification conditions, by program -/
theorem dX12_init_0 : decode cX12_init 0 = .ok (.aload_n 0, 1) := by decide +kernel
theorem dX12_init_1 : decode cX12_init 1 = .ok (.invokespecial 1, 3) := by decide +kernel
theorem dX12_init_4 : decode cX12_init 4 = .ok (.aload_n 0, 1) := by decide +kernel
theorem dX12_init_5 : decode cX12_init 5 = .ok (.iconst 2, 1) := by decide +kernel
theorem dX12_init_6 : decode cX12_init 6 = .ok (.putfield 7, 3) := by decide +kernel
theorem dX12_init_9 : decode cX12_init 9 = .ok (.aload_n 0, 1) := by decide +kernel
theorem dX12_init_10 : decode cX12_init 10 = .ok (.bipush 10, 2) := by decide +kernel
theorem dX12_init_12 : decode cX12_init 12 = .ok (.newarray .int, 2) := by decide +kernel
theorem dX12_init_14 : decode cX12_init 14 = .ok (.putfield 13, 3) := by decide +kernel
theorem dX12_init_17 : decode cX12_init 17 = .ok (.aload_n 0, 1) := by decide +kernel
theorem dX12_init_18 : decode cX12_init 18 = .ok (.bipush 10, 2) := by decide +kernel
theorem dX12_init_20 : decode cX12_init 20 = .ok (.newarray .int, 2) := by decide +kernel
theorem dX12_init_22 : decode cX12_init 22 = .ok (.putfield 17, 3) := by decide +kernel
theorem dX12_init_25 : decode cX12_init 25 = .ok (.aload_n 0, 1) := by decide +kernel
theorem dX12_init_26 : decode cX12_init 26 = .ok (.sipush 1800, 3) := by decide +kernel
theorem dX12_init_29 : decode cX12_init 29 = .ok (.newarray .int, 2) := by decide +kernel
theorem dX12_init_31 : decode cX12_init 31 = .ok (.putfield 20, 3) := by decide +kernel
theorem dX12_init_34 : decode cX12_init 34 = .ok (.aload_n 0, 1) := by decide +kernel
theorem dX12_init_35 : decode cX12_init 35 = .ok (.sipush 600, 3) := by decide +kernel
theorem dX12_init_38 : decode cX12_init 38 = .ok (.newarray .int, 2) := by decide +kernel
theorem dX12_init_40 : decode cX12_init 40 = .ok (.putfield 23, 3) := by decide +kernel
theorem dX12_init_43 : decode cX12_init 43 = .ok (.aload_n 0, 1) := by decide +kernel
theorem dX12_init_44 : decode cX12_init 44 = .ok (.bipush 10, 2) := by decide +kernel
theorem dX12_init_46 : decode cX12_init 46 = .ok (.newarray .int, 2) := by decide +kernel
theorem dX12_init_48 : decode cX12_init 48 = .ok (.putfield 26, 3) := by decide +kernel
theorem dX12_init_51 : decode cX12_init 51 = .ok (.aload_n 0, 1) := by decide +kernel
theorem dX12_init_52 : decode cX12_init 52 = .ok (.bipush 10, 2) := by decide +kernel
theorem dX12_init_54 : decode cX12_init 54 = .ok (.newarray .int, 2) := by decide +kernel
theorem dX12_init_56 : decode cX12_init 56 = .ok (.putfield 29, 3) := by decide +kernel
theorem dX12_init_59 : decode cX12_init 59 = .ok (.aload_n 0, 1) := by decide +kernel
theorem dX12_init_60 : decode cX12_init 60 = .ok (.bipush 10, 2) := by decide +kernel
theorem dX12_init_62 : decode cX12_init 62 = .ok (.newarray .int, 2) := by decide +kernel
theorem dX12_init_64 : decode cX12_init 64 = .ok (.putfield 32, 3) := by decide +kernel
theorem dX12_init_67 : decode cX12_init 67 = .ok (.aload_n 0, 1) := by decide +kernel
theorem dX12_init_68 : decode cX12_init 68 = .ok (.bipush 10, 2) := by decide +kernel
theorem dX12_init_70 : decode cX12_init 70 = .ok (.newarray .int, 2) := by decide +kernel
theorem dX12_init_72 : decode cX12_init 72 = .ok (.putfield 35, 3) := by decide +kernel
theorem dX12_init_75 : decode cX12_init 75 = .ok (.aload_n 0, 1) := by decide +kernel
theorem dX12_init_76 : decode cX12_init 76 = .ok (.bipush 10, 2) := by decide +kernel
theorem dX12_init_78 : decode cX12_init 78 = .ok (.newarray .int, 2) := by decide +kernel
theorem dX12_init_80 : decode cX12_init 80 = .ok (.putfield 38, 3) := by decide +kernel
theorem dX12_init_83 : decode cX12_init 83 = .ok (.aload_n 0, 1) := by decide +kernel
theorem dX12_init_84 : decode cX12_init 84 = .ok (.bipush 10, 2) := by decide +kernel
theorem dX12_init_86 : decode cX12_init 86 = .ok (.newarray .int, 2) := by decide +kernel
theorem dX12_init_88 : decode cX12_init 88 = .ok (.putfield 41, 3) := by decide +kernel
theorem dX12_init_91 : decode cX12_init 91 = .ok (.aload_n 0, 1) := by decide +kernel
theorem dX12_init_92 : decode cX12_init 92 = .ok (.bipush 10, 2) := by decide +kernel
theorem dX12_init_94 : decode cX12_init 94 = .ok (.newarray .int, 2) := by decide +kernel
theorem dX12_init_96 : decode cX12_init 96 = .ok (.putfield 44, 3) := by decide +kernel
theorem dX12_init_99 : decode cX12_init 99 = .ok (.aload_n 0, 1) := by decide +kernel
theorem dX12_init_100 : decode cX12_init 100 = .ok (.bipush 10, 2) := by decide +kernel
theorem dX12_init_102 : decode cX12_init 102 = .ok (.newarray .int, 2) := by decide +kernel
theorem dX12_init_104 : decode cX12_init 104 = .ok (.putfield 47, 3) := by decide +kernel
theorem dX12_init_107 : decode cX12_init 107 = .ok (.aload_n 0, 1) := by decide +kernel
theorem dX12_init_108 : decode cX12_init 108 = .ok (.sipush 10800, 3) := by decide +kernel
theorem dX12_init_111 : decode cX12_init 111 = .ok (.newarray .int, 2) := by decide +kernel
theorem dX12_init_113 : decode cX12_init 113 = .ok (.putfield 50, 3) := by decide +kernel
theorem dX12_init_116 : decode cX12_init 116 = .ok (.aload_n 0, 1) := by decide +kernel
theorem dX12_init_117 : decode cX12_init 117 = .ok (.sipush 400, 3) := by decide +kernel
theorem dX12_init_120 : decode cX12_init 120 = .ok (.newarray .boolean, 2) := by decide +kernel
theorem dX12_init_122 : decode cX12_init 122 = .ok (.putfield 53, 3) := by decide +kernel
theorem dX12_init_125 : decode cX12_init 125 = .ok (.aload_n 0, 1) := by decide +kernel
theorem dX12_init_126 : decode cX12_init 126 = .ok (.bipush 120, 2) := by decide +kernel
theorem dX12_init_128 : decode cX12_init 128 = .ok (.newarray .int, 2) := by decide +kernel
theorem dX12_init_130 : decode cX12_init 130 = .ok (.putfield 57, 3) := by decide +kernel
theorem dX12_init_133 : decode cX12_init 133 = .ok (.aload_n 0, 1) := by decide +kernel
theorem dX12_init_134 : decode cX12_init 134 = .ok (.bipush 6, 2) := by decide +kernel
theorem dX12_init_136 : decode cX12_init 136 = .ok (.newarray .int, 2) := by decide +kernel
theorem dX12_init_138 : decode cX12_init 138 = .ok (.putfield 60, 3) := by decide +kernel
theorem dX12_init_141 : decode cX12_init 141 = .ok (.aload_n 0, 1) := by decide +kernel
theorem dX12_init_142 : decode cX12_init 142 = .ok (.bipush 6, 2) := by decide +kernel
theorem dX12_init_144 : decode cX12_init 144 = .ok (.newarray .int, 2) := by decide +kernel
theorem dX12_init_146 : decode cX12_init 146 = .ok (.putfield 63, 3) := by decide +kernel
theorem dX12_init_149 : decode cX12_init 149 = .ok (.aload_n 0, 1) := by decide +kernel
theorem dX12_init_150 : decode cX12_init 150 = .ok (.sipush 240, 3) := by decide +kernel
theorem dX12_init_153 : decode cX12_init 153 = .ok (.newarray .int, 2) := by decide +kernel
theorem dX12_init_155 : decode cX12_init 155 = .ok (.putfield 66, 3) := by decide +kernel
theorem dX12_init_158 : decode cX12_init 158 = .ok (.aload_n 0, 1) := by decide +kernel
theorem dX12_init_159 : decode cX12_init 159 = .ok (.bipush 50, 2) := by decide +kernel
theorem dX12_init_161 : decode cX12_init 161 = .ok (.newarray .int, 2) := by decide +kernel
theorem dX12_init_163 : decode cX12_init 163 = .ok (.putfield 69, 3) := by decide +kernel
theorem dX12_init_166 : decode cX12_init 166 = .ok (.aload_n 0, 1) := by decide +kernel
theorem dX12_init_167 : decode cX12_init 167 = .ok (.ldc 72, 2) := by decide +kernel
theorem dX12_init_169 : decode cX12_init 169 = .ok (.newarray .int, 2) := by decide +kernel
theorem dX12_init_171 : decode cX12_init 171 = .ok (.putfield 73, 3) := by decide +kernel
theorem dX12_init_174 : decode cX12_init 174 = .ok (.aload_n 0, 1) := by decide +kernel
theorem dX12_init_175 : decode cX12_init 175 = .ok (.sipush 8400, 3) := by decide +kernel
theorem dX12_init_178 : decode cX12_init 178 = .ok (.newarray .int, 2) := by decide +kernel
theorem dX12_init_180 : decode cX12_init 180 = .ok (.putfield 76, 3) := by decide +kernel
theorem dX12_init_183 : decode cX12_init 183 = .ok (.aload_n 0, 1) := by decide +kernel
theorem dX12_init_184 : decode cX12_init 184 = .ok (.sipush 8400, 3) := by decide +kernel
theorem dX12_init_187 : decode cX12_init 187 = .ok (.newarray .int, 2) := by decide +kernel
theorem dX12_init_189 : decode cX12_init 189 = .ok (.putfield 79, 3) := by decide +kernel
theorem dX12_init_192 : decode cX12_init 192 = .ok (.aload_n 0, 1) := by decide +kernel
theorem dX12_init_193 : decode cX12_init 193 = .ok (.sipush 8400, 3) := by decide +kernel
theorem dX12_init_196 : decode cX12_init 196 = .ok (.newarray .int, 2) := by decide +kernel
theorem dX12_init_198 : decode cX12_init 198 = .ok (.putfield 82, 3) := by decide +kernel
theorem dX12_init_201 : decode cX12_init 201 = .ok (.aload_n 0, 1) := by decide +kernel
theorem dX12_init_202 : decode cX12_init 202 = .ok (.ldc 85, 2) := by decide +kernel
theorem dX12_init_204 : decode cX12_init 204 = .ok (.newarray .int, 2) := by decide +kernel
theorem dX12_init_206 : decode cX12_init 206 = .ok (.putfield 86, 3) := by decide +kernel
theorem dX12_init_209 : decode cX12_init 209 = .ok (.aload_n 0, 1) := by decide +kernel
theorem dX12_init_210 : decode cX12_init 210 = .ok (.sipush 8400, 3) := by decide +kernel
theorem dX12_init_213 : decode cX12_init 213 = .ok (.newarray .int, 2) := by decide +kernel
theorem dX12_init_215 : decode cX12_init 215 = .ok (.putfield 89, 3) := by decide +kernel
theorem dX12_init_218 : decode cX12_init 218 = .ok (.aload_n 0, 1) := by decide +kernel
theorem dX12_init_219 : decode cX12_init 219 = .ok (.sipush 8400, 3) := by decide +kernel
theorem dX12_init_222 : decode cX12_init 222 = .ok (.newarray .int, 2) := by decide +kernel
theorem dX12_init_224 : decode cX12_init 224 = .ok (.putfield 92, 3) := by decide +kernel
theorem dX12_init_227 : decode cX12_init 227 = .ok (.aload_n 0, 1) := by decide +kernel
theorem dX12_init_228 : decode cX12_init 228 = .ok (.sipush 3600, 3) := by decide +kernel
theorem dX12_init_231 : decode cX12_init 231 = .ok (.newarray .int, 2) := by decide +kernel
theorem dX12_init_233 : decode cX12_init 233 = .ok (.putfield 95, 3) := by decide +kernel
theorem dX12_init_236 : decode cX12_init 236 = .ok (.aload_n 0, 1) := by decide +kernel
theorem dX12_init_237 : decode cX12_init 237 = .ok (.sipush 8400, 3) := by decide +kernel
theorem dX12_init_240 : decode cX12_init 240 = .ok (.newarray .int, 2) := by decide +kernel
theorem dX12_init_242 : decode cX12_init 242 = .ok (.putfield 98, 3) := by decide +kernel
theorem dX12_init_245 : decode cX12_init 245 = .ok (.aload_n 0, 1) := by decide +kernel
theorem dX12_init_246 : decode cX12_init 246 = .ok (.sipush 8400, 3) := by decide +kernel
theorem dX12_init_249 : decode cX12_init 249 = .ok (.newarray .int, 2) := by decide +kernel
theorem dX12_init_251 : decode cX12_init 251 = .ok (.putfield 101, 3) := by decide +kernel
theorem dX12_init_254 : decode cX12_init 254 = .ok (.aload_n 0, 1) := by decide +kernel
theorem dX12_init_255 : decode cX12_init 255 = .ok (.sipush 130, 3) := by decide +kernel
theorem dX12_init_258 : decode cX12_init 258 = .ok (.newarray .int, 2) := by decide +kernel
theorem dX12_init_260 : decode cX12_init 260 = .ok (.putfield 104, 3) := by decide +kernel
theorem dX12_init_263 : decode cX12_init 263 = .ok (.aload_n 0, 1) := by decide +kernel
theorem dX12_init_264 : decode cX12_init 264 = .ok (.sipush 130, 3) := by decide +kernel
theorem dX12_init_267 : decode cX12_init 267 = .ok (.newarray .int, 2) := by decide +kernel
theorem dX12_init_269 : decode cX12_init 269 = .ok (.putfield 107, 3) := by decide +kernel
theorem dX12_init_272 : decode cX12_init 272 = .ok (.aload_n 0, 1) := by decide +kernel
theorem dX12_init_273 : decode cX12_init 273 = .ok (.sipush 130, 3) := by decide +kernel
theorem dX12_init_276 : decode cX12_init 276 = .ok (.newarray .int, 2) := by decide +kernel
theorem dX12_init_278 : decode cX12_init 278 = .ok (.putfield 110, 3) := by decide +kernel
theorem dX12_init_281 : decode cX12_init 281 = .ok (.aload_n 0, 1) := by decide +kernel
theorem dX12_init_282 : decode cX12_init 282 = .ok (.sipush 130, 3) := by decide +kernel
theorem dX12_init_285 : decode cX12_init 285 = .ok (.newarray .int, 2) := by decide +kernel
theorem dX12_init_287 : decode cX12_init 287 = .ok (.putfield 113, 3) := by decide +kernel
theorem dX12_init_290 : decode cX12_init 290 = .ok (.aload_n 0, 1) := by decide +kernel
theorem dX12_init_291 : decode cX12_init 291 = .ok (.sipush 130, 3) := by decide +kernel
theorem dX12_init_294 : decode cX12_init 294 = .ok (.newarray .int, 2) := by decide +kernel
theorem dX12_init_296 : decode cX12_init 296 = .ok (.putfield 116, 3) := by decide +kernel
theorem dX12_init_299 : decode cX12_init 299 = .ok (.aload_n 0, 1) := by decide +kernel
theorem dX12_init_300 : decode cX12_init 300 = .ok (.sipush 130, 3) := by decide +kernel
theorem dX12_init_303 : decode cX12_init 303 = .ok (.newarray .int, 2) := by decide +kernel
theorem dX12_init_305 : decode cX12_init 305 = .ok (.putfield 119, 3) := by decide +kernel
theorem dX12_init_308 : decode cX12_init 308 = .ok (.aload_n 0, 1) := by decide +kernel
theorem dX12_init_309 : decode cX12_init 309 = .ok (.sipush 1040, 3) := by decide +kernel
theorem dX12_init_312 : decode cX12_init 312 = .ok (.newarray .int, 2) := by decide +kernel
theorem dX12_init_314 : decode cX12_init 314 = .ok (.putfield 122, 3) := by decide +kernel
theorem dX12_init_317 : decode cX12_init 317 = .ok (.aload_n 0, 1) := by decide +kernel
theorem dX12_init_318 : decode cX12_init 318 = .ok (.sipush 130, 3) := by decide +kernel
theorem dX12_init_321 : decode cX12_init 321 = .ok (.newarray .int, 2) := by decide +kernel
theorem dX12_init_323 : decode cX12_init 323 = .ok (.putfield 125, 3) := by decide +kernel
theorem dX12_init_326 : decode cX12_init 326 = .ok (.aload_n 0, 1) := by decide +kernel
theorem dX12_init_327 : decode cX12_init 327 = .ok (.sipush 130, 3) := by decide +kernel
theorem dX12_init_330 : decode cX12_init 330 = .ok (.newarray .int, 2) := by decide +kernel
theorem dX12_init_332 : decode cX12_init 332 = .ok (.putfield 128, 3) := by decide +kernel
theorem dX12_init_335 : decode cX12_init 335 = .ok (.aload_n 0, 1) := by decide +kernel
theorem dX12_init_336 : decode cX12_init 336 = .ok (.sipush 130, 3) := by decide +kernel
theorem dX12_init_339 : decode cX12_init 339 = .ok (.newarray .int, 2) := by decide +kernel
theorem dX12_init_341 : decode cX12_init 341 = .ok (.putfield 131, 3) := by decide +kernel
theorem dX12_init_344 : decode cX12_init 344 = .ok (.aload_n 0, 1) := by decide +kernel
theorem dX12_init_345 : decode cX12_init 345 = .ok (.sipush 130, 3) := by decide +kernel
theorem dX12_init_348 : decode cX12_init 348 = .ok (.newarray .int, 2) := by decide +kernel
theorem dX12_init_350 : decode cX12_init 350 = .ok (.putfield 134, 3) := by decide +kernel
theorem dX12_init_353 : decode cX12_init 353 = .ok (.aload_n 0, 1) := by decide +kernel
theorem dX12_init_354 : decode cX12_init 354 = .ok (.sipush 130, 3) := by decide +kernel
theorem dX12_init_357 : decode cX12_init 357 = .ok (.newarray .int, 2) := by decide +kernel
theorem dX12_init_359 : decode cX12_init 359 = .ok (.putfield 137, 3) := by decide +kernel
theorem dX12_init_362 : decode cX12_init 362 = .ok (.aload_n 0, 1) := by decide +kernel
theorem dX12_init_363 : decode cX12_init 363 = .ok (.sipush 130, 3) := by decide +kernel
theorem dX12_init_366 : decode cX12_init 366 = .ok (.newarray .int, 2) := by decide +kernel
theorem dX12_init_368 : decode cX12_init 368 = .ok (.putfield 140, 3) := by decide +kernel
theorem dX12_init_371 : decode cX12_init 371 = .ok (.aload_n 0, 1) := by decide +kernel
theorem dX12_init_372 : decode cX12_init 372 = .ok (.sipush 130, 3) := by decide +kernel
theorem dX12_init_375 : decode cX12_init 375 = .ok (.newarray .int, 2) := by decide +kernel
theorem dX12_init_377 : decode cX12_init 377 = .ok (.putfield 143, 3) := by decide +kernel
theorem dX12_init_380 : decode cX12_init 380 = .ok (.aload_n 0, 1) := by decide +kernel
theorem dX12_init_381 : decode cX12_init 381 = .ok (.sipush 130, 3) := by decide +kernel
theorem dX12_init_384 : decode cX12_init 384 = .ok (.newarray .int, 2) := by decide +kernel
theorem dX12_init_386 : decode cX12_init 386 = .ok (.putfield 146, 3) := by decide +kernel
theorem dX12_init_389 : decode cX12_init 389 = .ok (.aload_n 0, 1) := by decide +kernel
theorem dX12_init_390 : decode cX12_init 390 = .ok (.sipush 130, 3) := by decide +kernel
theorem dX12_init_393 : decode cX12_init 393 = .ok (.newarray .int, 2) := by decide +kernel
theorem dX12_init_395 : decode cX12_init 395 = .ok (.putfield 149, 3) := by decide +kernel
theorem dX12_init_398 : decode cX12_init 398 = .ok (.aload_n 0, 1) := by decide +kernel
theorem dX12_init_399 : decode cX12_init 399 = .ok (.sipush 130, 3) := by decide +kernel
theorem dX12_init_402 : decode cX12_init 402 = .ok (.newarray .int, 2) := by decide +kernel
theorem dX12_init_404 : decode cX12_init 404 = .ok (.putfield 152, 3) := by decide +kernel
theorem dX12_init_407 : decode cX12_init 407 = .ok (.aload_n 0, 1) := by decide +kernel
theorem dX12_init_408 : decode cX12_init 408 = .ok (.bipush 8, 2) := by decide +kernel
theorem dX12_init_410 : decode cX12_init 410 = .ok (.newarray .int, 2) := by decide +kernel
theorem dX12_init_412 : decode cX12_init 412 = .ok (.putfield 155, 3) := by decide +kernel
theorem dX12_init_415 : decode cX12_init 415 = .ok (.aload_n 0, 1) := by decide +kernel
theorem dX12_init_416 : decode cX12_init 416 = .ok (.sipush 130, 3) := by decide +kernel
theorem dX12_init_419 : decode cX12_init 419 = .ok (.newarray .int, 2) := by decide +kernel
theorem dX12_init_421 : decode cX12_init 421 = .ok (.putfield 158, 3) := by decide +kernel
theorem dX12_init_424 : decode cX12_init 424 = .ok (.aload_n 0, 1) := by decide +kernel
theorem dX12_init_425 : decode cX12_init 425 = .ok (.ldc 161, 2) := by decide +kernel
theorem dX12_init_427 : decode cX12_init 427 = .ok (.newarray .int, 2) := by decide +kernel
theorem dX12_init_429 : decode cX12_init 429 = .ok (.putfield 162, 3) := by decide +kernel
theorem dX12_init_432 : decode cX12_init 432 = .ok (.aload_n 0, 1) := by decide +kernel
theorem dX12_init_433 : decode cX12_init 433 = .ok (.sipush 5200, 3) := by decide +kernel
theorem dX12_init_436 : decode cX12_init 436 = .ok (.newarray .boolean, 2) := by decide +kernel
theorem dX12_init_438 : decode cX12_init 438 = .ok (.putfield 165, 3) := by decide +kernel
theorem dX12_init_441 : decode cX12_init 441 = .ok (.aload_n 0, 1) := by decide +kernel
theorem dX12_init_442 : decode cX12_init 442 = .ok (.sipush 302, 3) := by decide +kernel
theorem dX12_init_445 : decode cX12_init 445 = .ok (.newarray .long, 2) := by decide +kernel
theorem dX12_init_447 : decode cX12_init 447 = .ok (.putfield 168, 3) := by decide +kernel
theorem dX12_init_450 : decode cX12_init 450 = .ok (.aload_n 0, 1) := by decide +kernel
theorem dX12_init_451 : decode cX12_init 451 = .ok (.sipush 8400, 3) := by decide +kernel
theorem dX12_init_454 : decode cX12_init 454 = .ok (.newarray .int, 2) := by decide +kernel
theorem dX12_init_456 : decode cX12_init 456 = .ok (.putfield 172, 3) := by decide +kernel
theorem dX12_init_459 : decode cX12_init 459 = .ok (.aload_n 0, 1) := by decide +kernel
theorem dX12_init_460 : decode cX12_init 460 = .ok (.sipush 2160, 3) := by decide +kernel
theorem dX12_init_463 : decode cX12_init 463 = .ok (.newarray .int, 2) := by decide +kernel
theorem dX12_init_465 : decode cX12_init 465 = .ok (.putfield 175, 3) := by decide +kernel
theorem dX12_init_468 : decode cX12_init 468 = .ok (.aload_n 0, 1) := by decide +kernel
theorem dX12_init_469 : decode cX12_init 469 = .ok (.bipush 80, 2) := by decide +kernel
theorem dX12_init_471 : decode cX12_init 471 = .ok (.newarray .int, 2) := by decide +kernel
theorem dX12_init_473 : decode cX12_init 473 = .ok (.putfield 178, 3) := by decide +kernel
theorem dX12_init_476 : decode cX12_init 476 = .ok (.aload_n 0, 1) := by decide +kernel
theorem dX12_init_477 : decode cX12_init 477 = .ok (.iconst 2, 1) := by decide +kernel
theorem dX12_init_478 : decode cX12_init 478 = .ok (.newarray .int, 2) := by decide +kernel
theorem dX12_init_480 : decode cX12_init 480 = .ok (.putfield 181, 3) := by decide +kernel
theorem dX12_init_483 : decode cX12_init 483 = .ok (.aload_n 0, 1) := by decide +kernel
theorem dX12_init_484 : decode cX12_init 484 = .ok (.ldc 184, 2) := by decide +kernel
theorem dX12_init_486 : decode cX12_init 486 = .ok (.newarray .int, 2) := by decide +kernel
theorem dX12_init_488 : decode cX12_init 488 = .ok (.putfield 185, 3) := by decide +kernel
theorem dX12_init_491 : decode cX12_init 491 = .ok (.aload_n 0, 1) := by decide +kernel
theorem dX12_init_492 : decode cX12_init 492 = .ok (.iconst 4, 1) := by decide +kernel
theorem dX12_init_493 : decode cX12_init 493 = .ok (.newarray .int, 2) := by decide +kernel
theorem dX12_init_495 : decode cX12_init 495 = .ok (.putfield 188, 3) := by decide +kernel
theorem dX12_init_498 : decode cX12_init 498 = .ok (.aload_n 0, 1) := by decide +kernel
theorem dX12_init_499 : decode cX12_init 499 = .ok (.sipush 330, 3) := by decide +kernel
theorem dX12_init_502 : decode cX12_init 502 = .ok (.newarray .int, 2) := by decide +kernel
theorem dX12_init_504 : decode cX12_init 504 = .ok (.putfield 191, 3) := by decide +kernel
theorem dX12_init_507 : decode cX12_init 507 = .ok (.aload_n 0, 1) := by decide +kernel
theorem dX12_init_508 : decode cX12_init 508 = .ok (.sipush 8400, 3) := by decide +kernel
theorem dX12_init_511 : decode cX12_init 511 = .ok (.newarray .long, 2) := by decide +kernel
theorem dX12_init_513 : decode cX12_init 513 = .ok (.putfield 194, 3) := by decide +kernel
theorem dX12_init_516 : decode cX12_init 516 = .ok (.aload_n 0, 1) := by decide +kernel
theorem dX12_init_517 : decode cX12_init 517 = .ok (.sipush 4440, 3) := by decide +kernel
theorem dX12_init_520 : decode cX12_init 520 = .ok (.newarray .boolean, 2) := by decide +kernel
theorem dX12_init_522 : decode cX12_init 522 = .ok (.putfield 197, 3) := by decide +kernel
theorem dX12_init_525 : decode cX12_init 525 = .ok (.aload_n 0, 1) := by decide +kernel
theorem dX12_init_526 : decode cX12_init 526 = .ok (.bipush 111, 2) := by decide +kernel
theorem dX12_init_528 : decode cX12_init 528 = .ok (.newarray .int, 2) := by decide +kernel
theorem dX12_init_530 : decode cX12_init 530 = .ok (.putfield 200, 3) := by decide +kernel
theorem dX12_init_533 : decode cX12_init 533 = .ok (.aload_n 0, 1) := by decide +kernel
theorem dX12_init_534 : decode cX12_init 534 = .ok (.bipush 40, 2) := by decide +kernel
theorem dX12_init_536 : decode cX12_init 536 = .ok (.newarray .long, 2) := by decide +kernel
theorem dX12_init_538 : decode cX12_init 538 = .ok (.putfield 203, 3) := by decide +kernel
theorem dX12_init_541 : decode cX12_init 541 = .ok (.aload_n 0, 1) := by decide +kernel
theorem dX12_init_542 : decode cX12_init 542 = .ok (.bipush 40, 2) := by decide +kernel
theorem dX12_init_544 : decode cX12_init 544 = .ok (.newarray .long, 2) := by decide +kernel
theorem dX12_init_546 : decode cX12_init 546 = .ok (.putfield 206, 3) := by decide +kernel
theorem dX12_init_549 : decode cX12_init 549 = .ok (.aload_n 0, 1) := by decide +kernel
theorem dX12_init_550 : decode cX12_init 550 = .ok (.bipush 40, 2) := by decide +kernel
theorem dX12_init_552 : decode cX12_init 552 = .ok (.newarray .boolean, 2) := by decide +kernel
theorem dX12_init_554 : decode cX12_init 554 = .ok (.putfield 209, 3) := by decide +kernel
theorem dX12_init_557 : decode cX12_init 557 = .ok (.iconst 0, 1) := by decide +kernel
theorem dX12_init_558 : decode cX12_init 558 = .ok (.istore_n 1, 1) := by decide +kernel
theorem dX12_init_559 : decode cX12_init 559 = .ok (.iload_n 1, 1) := by decide +kernel
theorem dX12_init_560 : decode cX12_init 560 = .ok (.bipush 6, 2) := by decide +kernel
theorem dX12_init_562 : decode cX12_init 562 = .ok (.if_icmp .ge 16, 3) := by decide +kernel
theorem dX12_init_565 : decode cX12_init 565 = .ok (.aload_n 0, 1) := by decide +kernel
theorem dX12_init_566 : decode cX12_init 566 = .ok (.getfield 60, 3) := by decide +kernel
theorem dX12_init_569 : decode cX12_init 569 = .ok (.iload_n 1, 1) := by decide +kernel
theorem dX12_init_570 : decode cX12_init 570 = .ok (.iconst (-1), 1) := by decide +kernel
theorem dX12_init_571 : decode cX12_init 571 = .ok (.iastore, 1) := by decide +kernel
theorem dX12_init_572 : decode cX12_init 572 = .ok (.iinc 1 1, 3) := by decide +kernel
theorem dX12_init_575 : decode cX12_init 575 = .ok (.goto (-16), 3) := by decide +kernel
theorem dX12_init_578 : decode cX12_init 578 = .ok (.return_, 1) := by decide +kernel
theorem dX12_in_0 : decode cX12_in 0 = .ok (.iload_n 0, 1) := by decide +kernel
theorem dX12_in_1 : decode cX12_in 1 = .ok (.iload_n 1, 1) := by decide +kernel
theorem dX12_in_2 : decode cX12_in 2 = .ok (.if_icmp .lt 12, 3) := by decide +kernel
theorem dX12_in_5 : decode cX12_in 5 = .ok (.iload_n 0, 1) := by decide +kernel
theorem dX12_in_6 : decode cX12_in 6 = .ok (.iload_n 2, 1) := by decide +kernel
theorem dX12_in_7 : decode cX12_in 7 = .ok (.if_icmp .gt 7, 3) := by decide +kernel
theorem dX12_in_10 : decode cX12_in 10 = .ok (.iconst 1, 1) := by decide +kernel
theorem dX12_in_11 : decode cX12_in 11 = .ok (.goto 4, 3) := by decide +kernel
theorem dX12_in_14 : decode cX12_in 14 = .ok (.iconst 0, 1) := by decide +kernel
theorem dX12_in_15 : decode cX12_in 15 = .ok (.ireturn, 1) := by decide +kernel
theorem dX12_refused_0 : decode cX12_refused 0 = .ok (.aload_n 0, 1) := by decide +kernel
theorem dX12_refused_1 : decode cX12_refused 1 = .ok (.iload_n 1, 1) := by decide +kernel
theorem dX12_refused_2 : decode cX12_refused 2 = .ok (.putfield 212, 3) := by decide +kernel
theorem dX12_refused_5 : decode cX12_refused 5 = .ok (.iconst (-1), 1) := by decide +kernel
theorem dX12_refused_6 : decode cX12_refused 6 = .ok (.ireturn, 1) := by decide +kernel
theorem dX12_done_0 : decode cX12_done 0 = .ok (.aload_n 0, 1) := by decide +kernel
theorem dX12_done_1 : decode cX12_done 1 = .ok (.iconst 0, 1) := by decide +kernel
theorem dX12_done_2 : decode cX12_done 2 = .ok (.putfield 212, 3) := by decide +kernel
theorem dX12_done_5 : decode cX12_done 5 = .ok (.iload_n 1, 1) := by decide +kernel
theorem dX12_done_6 : decode cX12_done 6 = .ok (.ireturn, 1) := by decide +kernel
theorem dX12_isRow_0 : decode cX12_isRow 0 = .ok (.iload_n 1, 1) := by decide +kernel
theorem dX12_isRow_1 : decode cX12_isRow 1 = .ok (.iconst 0, 1) := by decide +kernel
theorem dX12_isRow_2 : decode cX12_isRow 2 = .ok (.aload_n 0, 1) := by decide +kernel
theorem dX12_isRow_3 : decode cX12_isRow 3 = .ok (.getfield 215, 3) := by decide +kernel
theorem dX12_isRow_6 : decode cX12_isRow 6 = .ok (.iconst 1, 1) := by decide +kernel
theorem dX12_isRow_7 : decode cX12_isRow 7 = .ok (.isub, 1) := by decide +kernel
theorem dX12_isRow_8 : decode cX12_isRow 8 = .ok (.invokestatic 218, 3) := by decide +kernel
theorem dX12_isRow_11 : decode cX12_isRow 11 = .ok (.ireturn, 1) := by decide +kernel
theorem dX12_bits_0 : decode cX12_bits 0 = .ok (.iconst 0, 1) := by decide +kernel
theorem dX12_bits_1 : decode cX12_bits 1 = .ok (.istore_n 1, 1) := by decide +kernel
theorem dX12_bits_2 : decode cX12_bits 2 = .ok (.iconst 0, 1) := by decide +kernel
theorem dX12_bits_3 : decode cX12_bits 3 = .ok (.istore_n 2, 1) := by decide +kernel
theorem dX12_bits_4 : decode cX12_bits 4 = .ok (.iload_n 2, 1) := by decide +kernel
theorem dX12_bits_5 : decode cX12_bits 5 = .ok (.bipush 10, 2) := by decide +kernel
theorem dX12_bits_7 : decode cX12_bits 7 = .ok (.if_icmp .ge 17, 3) := by decide +kernel
theorem dX12_bits_10 : decode cX12_bits 10 = .ok (.iload_n 1, 1) := by decide +kernel
theorem dX12_bits_11 : decode cX12_bits 11 = .ok (.iload_n 0, 1) := by decide +kernel
theorem dX12_bits_12 : decode cX12_bits 12 = .ok (.iload_n 2, 1) := by decide +kernel
theorem dX12_bits_13 : decode cX12_bits 13 = .ok (.ishr, 1) := by decide +kernel
theorem dX12_bits_14 : decode cX12_bits 14 = .ok (.iconst 1, 1) := by decide +kernel
theorem dX12_bits_15 : decode cX12_bits 15 = .ok (.iand, 1) := by decide +kernel
theorem dX12_bits_16 : decode cX12_bits 16 = .ok (.iadd, 1) := by decide +kernel
theorem dX12_bits_17 : decode cX12_bits 17 = .ok (.istore_n 1, 1) := by decide +kernel
theorem dX12_bits_18 : decode cX12_bits 18 = .ok (.iinc 2 1, 3) := by decide +kernel
theorem dX12_bits_21 : decode cX12_bits 21 = .ok (.goto (-17), 3) := by decide +kernel
theorem dX12_bits_24 : decode cX12_bits 24 = .ok (.iload_n 1, 1) := by decide +kernel
theorem dX12_bits_25 : decode cX12_bits 25 = .ok (.ireturn, 1) := by decide +kernel
theorem dX12_across_0 : decode cX12_across 0 = .ok (.iconst 1, 1) := by decide +kernel
theorem dX12_across_1 : decode cX12_across 1 = .ok (.istore_n 2, 1) := by decide +kernel
theorem dX12_across_2 : decode cX12_across 2 = .ok (.iconst 0, 1) := by decide +kernel
theorem dX12_across_3 : decode cX12_across 3 = .ok (.istore_n 3, 1) := by decide +kernel
theorem dX12_across_4 : decode cX12_across 4 = .ok (.iload_n 3, 1) := by decide +kernel
theorem dX12_across_5 : decode cX12_across 5 = .ok (.iload_n 1, 1) := by decide +kernel
theorem dX12_across_6 : decode cX12_across 6 = .ok (.invokestatic 222, 3) := by decide +kernel
theorem dX12_across_9 : decode cX12_across 9 = .ok (.if_icmp .ge 16, 3) := by decide +kernel
theorem dX12_across_12 : decode cX12_across 12 = .ok (.iload_n 2, 1) := by decide +kernel
theorem dX12_across_13 : decode cX12_across 13 = .ok (.aload_n 0, 1) := by decide +kernel
theorem dX12_across_14 : decode cX12_across 14 = .ok (.getfield 7, 3) := by decide +kernel
theorem dX12_across_17 : decode cX12_across 17 = .ok (.imul, 1) := by decide +kernel
theorem dX12_across_18 : decode cX12_across 18 = .ok (.istore_n 2, 1) := by decide +kernel
theorem dX12_across_19 : decode cX12_across 19 = .ok (.iinc 3 1, 3) := by decide +kernel
theorem dX12_across_22 : decode cX12_across 22 = .ok (.goto (-18), 3) := by decide +kernel
theorem dX12_across_25 : decode cX12_across 25 = .ok (.iload_n 2, 1) := by decide +kernel
theorem dX12_across_26 : decode cX12_across 26 = .ok (.ireturn, 1) := by decide +kernel
theorem dX12_isAlike_0 : decode cX12_isAlike 0 = .ok (.aload_n 0, 1) := by decide +kernel
theorem dX12_isAlike_1 : decode cX12_isAlike 1 = .ok (.getfield 82, 3) := by decide +kernel
theorem dX12_isAlike_4 : decode cX12_isAlike 4 = .ok (.iload_n 1, 1) := by decide +kernel
theorem dX12_isAlike_5 : decode cX12_isAlike 5 = .ok (.iaload, 1) := by decide +kernel
theorem dX12_isAlike_6 : decode cX12_isAlike 6 = .ok (.aload_n 0, 1) := by decide +kernel
theorem dX12_isAlike_7 : decode cX12_isAlike 7 = .ok (.getfield 82, 3) := by decide +kernel
theorem dX12_isAlike_10 : decode cX12_isAlike 10 = .ok (.iload_n 2, 1) := by decide +kernel
theorem dX12_isAlike_11 : decode cX12_isAlike 11 = .ok (.iaload, 1) := by decide +kernel
theorem dX12_isAlike_12 : decode cX12_isAlike 12 = .ok (.if_icmp .ne 7, 3) := by decide +kernel
theorem dX12_isAlike_15 : decode cX12_isAlike 15 = .ok (.iconst 1, 1) := by decide +kernel
theorem dX12_isAlike_16 : decode cX12_isAlike 16 = .ok (.goto 4, 3) := by decide +kernel
theorem dX12_isAlike_19 : decode cX12_isAlike 19 = .ok (.iconst 0, 1) := by decide +kernel
theorem dX12_isAlike_20 : decode cX12_isAlike 20 = .ok (.istore_n 3, 1) := by decide +kernel
theorem dX12_isAlike_21 : decode cX12_isAlike 21 = .ok (.iconst 0, 1) := by decide +kernel
theorem dX12_isAlike_22 : decode cX12_isAlike 22 = .ok (.istore 4, 2) := by decide +kernel
theorem dX12_isAlike_24 : decode cX12_isAlike 24 = .ok (.iload_n 3, 1) := by decide +kernel
theorem dX12_isAlike_25 : decode cX12_isAlike 25 = .ok (.ifCond .eq 61, 3) := by decide +kernel
theorem dX12_isAlike_28 : decode cX12_isAlike 28 = .ok (.iload 4, 2) := by decide +kernel
theorem dX12_isAlike_30 : decode cX12_isAlike 30 = .ok (.aload_n 0, 1) := by decide +kernel
theorem dX12_isAlike_31 : decode cX12_isAlike 31 = .ok (.getfield 226, 3) := by decide +kernel
theorem dX12_isAlike_34 : decode cX12_isAlike 34 = .ok (.if_icmp .ge 52, 3) := by decide +kernel
theorem dX12_isAlike_37 : decode cX12_isAlike 37 = .ok (.aload_n 0, 1) := by decide +kernel
theorem dX12_isAlike_38 : decode cX12_isAlike 38 = .ok (.getfield 82, 3) := by decide +kernel
theorem dX12_isAlike_41 : decode cX12_isAlike 41 = .ok (.aload_n 0, 1) := by decide +kernel
theorem dX12_isAlike_42 : decode cX12_isAlike 42 = .ok (.getfield 73, 3) := by decide +kernel
theorem dX12_isAlike_45 : decode cX12_isAlike 45 = .ok (.bipush 27, 2) := by decide +kernel
theorem dX12_isAlike_47 : decode cX12_isAlike 47 = .ok (.iload_n 1, 1) := by decide +kernel
theorem dX12_isAlike_48 : decode cX12_isAlike 48 = .ok (.imul, 1) := by decide +kernel
theorem dX12_isAlike_49 : decode cX12_isAlike 49 = .ok (.iload 4, 2) := by decide +kernel
theorem dX12_isAlike_51 : decode cX12_isAlike 51 = .ok (.iadd, 1) := by decide +kernel
theorem dX12_isAlike_52 : decode cX12_isAlike 52 = .ok (.iaload, 1) := by decide +kernel
theorem dX12_isAlike_53 : decode cX12_isAlike 53 = .ok (.iaload, 1) := by decide +kernel
theorem dX12_isAlike_54 : decode cX12_isAlike 54 = .ok (.aload_n 0, 1) := by decide +kernel
theorem dX12_isAlike_55 : decode cX12_isAlike 55 = .ok (.getfield 82, 3) := by decide +kernel
theorem dX12_isAlike_58 : decode cX12_isAlike 58 = .ok (.aload_n 0, 1) := by decide +kernel
theorem dX12_isAlike_59 : decode cX12_isAlike 59 = .ok (.getfield 73, 3) := by decide +kernel
theorem dX12_isAlike_62 : decode cX12_isAlike 62 = .ok (.bipush 27, 2) := by decide +kernel
theorem dX12_isAlike_64 : decode cX12_isAlike 64 = .ok (.iload_n 2, 1) := by decide +kernel
theorem dX12_isAlike_65 : decode cX12_isAlike 65 = .ok (.imul, 1) := by decide +kernel
theorem dX12_isAlike_66 : decode cX12_isAlike 66 = .ok (.iload 4, 2) := by decide +kernel
theorem dX12_isAlike_68 : decode cX12_isAlike 68 = .ok (.iadd, 1) := by decide +kernel
theorem dX12_isAlike_69 : decode cX12_isAlike 69 = .ok (.iaload, 1) := by decide +kernel
theorem dX12_isAlike_70 : decode cX12_isAlike 70 = .ok (.iaload, 1) := by decide +kernel
theorem dX12_isAlike_71 : decode cX12_isAlike 71 = .ok (.if_icmp .ne 7, 3) := by decide +kernel
theorem dX12_isAlike_74 : decode cX12_isAlike 74 = .ok (.iconst 1, 1) := by decide +kernel
theorem dX12_isAlike_75 : decode cX12_isAlike 75 = .ok (.goto 4, 3) := by decide +kernel
theorem dX12_isAlike_78 : decode cX12_isAlike 78 = .ok (.iconst 0, 1) := by decide +kernel
theorem dX12_isAlike_79 : decode cX12_isAlike 79 = .ok (.istore_n 3, 1) := by decide +kernel
theorem dX12_isAlike_80 : decode cX12_isAlike 80 = .ok (.iinc 4 1, 3) := by decide +kernel
theorem dX12_isAlike_83 : decode cX12_isAlike 83 = .ok (.goto (-59), 3) := by decide +kernel
theorem dX12_isAlike_86 : decode cX12_isAlike 86 = .ok (.iload_n 3, 1) := by decide +kernel
theorem dX12_isAlike_87 : decode cX12_isAlike 87 = .ok (.ireturn, 1) := by decide +kernel
theorem dX12_place_0 : decode cX12_place 0 = .ok (.aload_n 0, 1) := by decide +kernel
theorem dX12_place_1 : decode cX12_place 1 = .ok (.getfield 82, 3) := by decide +kernel
theorem dX12_place_4 : decode cX12_place 4 = .ok (.iload_n 1, 1) := by decide +kernel
theorem dX12_place_5 : decode cX12_place 5 = .ok (.iaload, 1) := by decide +kernel
theorem dX12_place_6 : decode cX12_place 6 = .ok (.istore_n 2, 1) := by decide +kernel
theorem dX12_place_7 : decode cX12_place 7 = .ok (.iconst 0, 1) := by decide +kernel
theorem dX12_place_8 : decode cX12_place 8 = .ok (.istore_n 3, 1) := by decide +kernel
theorem dX12_place_9 : decode cX12_place 9 = .ok (.iload_n 3, 1) := by decide +kernel
theorem dX12_place_10 : decode cX12_place 10 = .ok (.aload_n 0, 1) := by decide +kernel
theorem dX12_place_11 : decode cX12_place 11 = .ok (.getfield 226, 3) := by decide +kernel
theorem dX12_place_14 : decode cX12_place 14 = .ok (.if_icmp .ge 31, 3) := by decide +kernel
theorem dX12_place_17 : decode cX12_place 17 = .ok (.iload_n 2, 1) := by decide +kernel
theorem dX12_place_18 : decode cX12_place 18 = .ok (.bipush 31, 2) := by decide +kernel
theorem dX12_place_20 : decode cX12_place 20 = .ok (.imul, 1) := by decide +kernel
theorem dX12_place_21 : decode cX12_place 21 = .ok (.aload_n 0, 1) := by decide +kernel
theorem dX12_place_22 : decode cX12_place 22 = .ok (.getfield 82, 3) := by decide +kernel
theorem dX12_place_25 : decode cX12_place 25 = .ok (.aload_n 0, 1) := by decide +kernel
theorem dX12_place_26 : decode cX12_place 26 = .ok (.getfield 73, 3) := by decide +kernel
theorem dX12_place_29 : decode cX12_place 29 = .ok (.bipush 27, 2) := by decide +kernel
theorem dX12_place_31 : decode cX12_place 31 = .ok (.iload_n 1, 1) := by decide +kernel
theorem dX12_place_32 : decode cX12_place 32 = .ok (.imul, 1) := by decide +kernel
theorem dX12_place_33 : decode cX12_place 33 = .ok (.iload_n 3, 1) := by decide +kernel
theorem dX12_place_34 : decode cX12_place 34 = .ok (.iadd, 1) := by decide +kernel
theorem dX12_place_35 : decode cX12_place 35 = .ok (.iaload, 1) := by decide +kernel
theorem dX12_place_36 : decode cX12_place 36 = .ok (.iaload, 1) := by decide +kernel
theorem dX12_place_37 : decode cX12_place 37 = .ok (.iadd, 1) := by decide +kernel
theorem dX12_place_38 : decode cX12_place 38 = .ok (.istore_n 2, 1) := by decide +kernel
theorem dX12_place_39 : decode cX12_place 39 = .ok (.iinc 3 1, 3) := by decide +kernel
theorem dX12_place_42 : decode cX12_place 42 = .ok (.goto (-33), 3) := by decide +kernel
theorem dX12_place_45 : decode cX12_place 45 = .ok (.iload_n 2, 1) := by decide +kernel
theorem dX12_place_46 : decode cX12_place 46 = .ok (.ldc 229, 2) := by decide +kernel
theorem dX12_place_48 : decode cX12_place 48 = .ok (.imul, 1) := by decide +kernel
theorem dX12_place_49 : decode cX12_place 49 = .ok (.bipush 17, 2) := by decide +kernel
theorem dX12_place_51 : decode cX12_place 51 = .ok (.iushr, 1) := by decide +kernel
theorem dX12_place_52 : decode cX12_place 52 = .ok (.sipush 32767, 3) := by decide +kernel
theorem dX12_place_55 : decode cX12_place 55 = .ok (.iand, 1) := by decide +kernel
theorem dX12_place_56 : decode cX12_place 56 = .ok (.istore_n 3, 1) := by decide +kernel
theorem dX12_place_57 : decode cX12_place 57 = .ok (.aload_n 0, 1) := by decide +kernel
theorem dX12_place_58 : decode cX12_place 58 = .ok (.getfield 86, 3) := by decide +kernel
theorem dX12_place_61 : decode cX12_place 61 = .ok (.iload_n 3, 1) := by decide +kernel
theorem dX12_place_62 : decode cX12_place 62 = .ok (.iaload, 1) := by decide +kernel
theorem dX12_place_63 : decode cX12_place 63 = .ok (.ifCond .eq 30, 3) := by decide +kernel
theorem dX12_place_66 : decode cX12_place 66 = .ok (.aload_n 0, 1) := by decide +kernel
theorem dX12_place_67 : decode cX12_place 67 = .ok (.aload_n 0, 1) := by decide +kernel
theorem dX12_place_68 : decode cX12_place 68 = .ok (.getfield 86, 3) := by decide +kernel
theorem dX12_place_71 : decode cX12_place 71 = .ok (.iload_n 3, 1) := by decide +kernel
theorem dX12_place_72 : decode cX12_place 72 = .ok (.iaload, 1) := by decide +kernel
theorem dX12_place_73 : decode cX12_place 73 = .ok (.iconst 1, 1) := by decide +kernel
theorem dX12_place_74 : decode cX12_place 74 = .ok (.isub, 1) := by decide +kernel
theorem dX12_place_75 : decode cX12_place 75 = .ok (.iload_n 1, 1) := by decide +kernel
theorem dX12_place_76 : decode cX12_place 76 = .ok (.invokevirtual 230, 3) := by decide +kernel
theorem dX12_place_79 : decode cX12_place 79 = .ok (.ifCond .ne 14, 3) := by decide +kernel
theorem dX12_place_82 : decode cX12_place 82 = .ok (.iload_n 3, 1) := by decide +kernel
theorem dX12_place_83 : decode cX12_place 83 = .ok (.iconst 1, 1) := by decide +kernel
theorem dX12_place_84 : decode cX12_place 84 = .ok (.iadd, 1) := by decide +kernel
theorem dX12_place_85 : decode cX12_place 85 = .ok (.sipush 32767, 3) := by decide +kernel
theorem dX12_place_88 : decode cX12_place 88 = .ok (.iand, 1) := by decide +kernel
theorem dX12_place_89 : decode cX12_place 89 = .ok (.istore_n 3, 1) := by decide +kernel
theorem dX12_place_90 : decode cX12_place 90 = .ok (.goto (-33), 3) := by decide +kernel
theorem dX12_place_93 : decode cX12_place 93 = .ok (.iload_n 3, 1) := by decide +kernel
theorem dX12_place_94 : decode cX12_place 94 = .ok (.ireturn, 1) := by decide +kernel
theorem dX12_apart_0 : decode cX12_apart 0 = .ok (.iconst 0, 1) := by decide +kernel
theorem dX12_apart_1 : decode cX12_apart 1 = .ok (.istore_n 1, 1) := by decide +kernel
theorem dX12_apart_2 : decode cX12_apart 2 = .ok (.iconst 0, 1) := by decide +kernel
theorem dX12_apart_3 : decode cX12_apart 3 = .ok (.istore_n 2, 1) := by decide +kernel
theorem dX12_apart_4 : decode cX12_apart 4 = .ok (.iload_n 2, 1) := by decide +kernel
theorem dX12_apart_5 : decode cX12_apart 5 = .ok (.aload_n 0, 1) := by decide +kernel
theorem dX12_apart_6 : decode cX12_apart 6 = .ok (.getfield 234, 3) := by decide +kernel
theorem dX12_apart_9 : decode cX12_apart 9 = .ok (.if_icmp .ge 21, 3) := by decide +kernel
theorem dX12_apart_12 : decode cX12_apart 12 = .ok (.aload_n 0, 1) := by decide +kernel
theorem dX12_apart_13 : decode cX12_apart 13 = .ok (.getfield 79, 3) := by decide +kernel
theorem dX12_apart_16 : decode cX12_apart 16 = .ok (.iload_n 2, 1) := by decide +kernel
theorem dX12_apart_17 : decode cX12_apart 17 = .ok (.aload_n 0, 1) := by decide +kernel
theorem dX12_apart_18 : decode cX12_apart 18 = .ok (.getfield 76, 3) := by decide +kernel
theorem dX12_apart_21 : decode cX12_apart 21 = .ok (.iload_n 2, 1) := by decide +kernel
theorem dX12_apart_22 : decode cX12_apart 22 = .ok (.iaload, 1) := by decide +kernel
theorem dX12_apart_23 : decode cX12_apart 23 = .ok (.iastore, 1) := by decide +kernel
theorem dX12_apart_24 : decode cX12_apart 24 = .ok (.iinc 2 1, 3) := by decide +kernel
theorem dX12_apart_27 : decode cX12_apart 27 = .ok (.goto (-23), 3) := by decide +kernel
theorem dX12_apart_30 : decode cX12_apart 30 = .ok (.iconst (-1), 1) := by decide +kernel
theorem dX12_apart_31 : decode cX12_apart 31 = .ok (.istore_n 2, 1) := by decide +kernel
theorem dX12_apart_32 : decode cX12_apart 32 = .ok (.iload_n 1, 1) := by decide +kernel
theorem dX12_apart_33 : decode cX12_apart 33 = .ok (.iload_n 2, 1) := by decide +kernel
theorem dX12_apart_34 : decode cX12_apart 34 = .ok (.if_icmp .eq 135, 3) := by decide +kernel
theorem dX12_apart_37 : decode cX12_apart 37 = .ok (.iload_n 1, 1) := by decide +kernel
theorem dX12_apart_38 : decode cX12_apart 38 = .ok (.istore_n 2, 1) := by decide +kernel
theorem dX12_apart_39 : decode cX12_apart 39 = .ok (.iconst 0, 1) := by decide +kernel
theorem dX12_apart_40 : decode cX12_apart 40 = .ok (.istore_n 1, 1) := by decide +kernel
theorem dX12_apart_41 : decode cX12_apart 41 = .ok (.iconst 0, 1) := by decide +kernel
theorem dX12_apart_42 : decode cX12_apart 42 = .ok (.istore_n 3, 1) := by decide +kernel
theorem dX12_apart_43 : decode cX12_apart 43 = .ok (.iload_n 3, 1) := by decide +kernel
theorem dX12_apart_44 : decode cX12_apart 44 = .ok (.ldc 85, 2) := by decide +kernel
theorem dX12_apart_46 : decode cX12_apart 46 = .ok (.if_icmp .ge 16, 3) := by decide +kernel
theorem dX12_apart_49 : decode cX12_apart 49 = .ok (.aload_n 0, 1) := by decide +kernel
theorem dX12_apart_50 : decode cX12_apart 50 = .ok (.getfield 86, 3) := by decide +kernel
theorem dX12_apart_53 : decode cX12_apart 53 = .ok (.iload_n 3, 1) := by decide +kernel
theorem dX12_apart_54 : decode cX12_apart 54 = .ok (.iconst 0, 1) := by decide +kernel
theorem dX12_apart_55 : decode cX12_apart 55 = .ok (.iastore, 1) := by decide +kernel
theorem dX12_apart_56 : decode cX12_apart 56 = .ok (.iinc 3 1, 3) := by decide +kernel
theorem dX12_apart_59 : decode cX12_apart 59 = .ok (.goto (-16), 3) := by decide +kernel
theorem dX12_apart_62 : decode cX12_apart 62 = .ok (.iconst 0, 1) := by decide +kernel
theorem dX12_apart_63 : decode cX12_apart 63 = .ok (.istore_n 3, 1) := by decide +kernel
theorem dX12_apart_64 : decode cX12_apart 64 = .ok (.iload_n 3, 1) := by decide +kernel
theorem dX12_apart_65 : decode cX12_apart 65 = .ok (.aload_n 0, 1) := by decide +kernel
theorem dX12_apart_66 : decode cX12_apart 66 = .ok (.getfield 234, 3) := by decide +kernel
theorem dX12_apart_69 : decode cX12_apart 69 = .ok (.if_icmp .ge 21, 3) := by decide +kernel
theorem dX12_apart_72 : decode cX12_apart 72 = .ok (.aload_n 0, 1) := by decide +kernel
theorem dX12_apart_73 : decode cX12_apart 73 = .ok (.getfield 82, 3) := by decide +kernel
theorem dX12_apart_76 : decode cX12_apart 76 = .ok (.iload_n 3, 1) := by decide +kernel
theorem dX12_apart_77 : decode cX12_apart 77 = .ok (.aload_n 0, 1) := by decide +kernel
theorem dX12_apart_78 : decode cX12_apart 78 = .ok (.getfield 79, 3) := by decide +kernel
theorem dX12_apart_81 : decode cX12_apart 81 = .ok (.iload_n 3, 1) := by decide +kernel
theorem dX12_apart_82 : decode cX12_apart 82 = .ok (.iaload, 1) := by decide +kernel
theorem dX12_apart_83 : decode cX12_apart 83 = .ok (.iastore, 1) := by decide +kernel
theorem dX12_apart_84 : decode cX12_apart 84 = .ok (.iinc 3 1, 3) := by decide +kernel
theorem dX12_apart_87 : decode cX12_apart 87 = .ok (.goto (-23), 3) := by decide +kernel
theorem dX12_apart_90 : decode cX12_apart 90 = .ok (.iconst 0, 1) := by decide +kernel
theorem dX12_apart_91 : decode cX12_apart 91 = .ok (.istore_n 3, 1) := by decide +kernel
theorem dX12_apart_92 : decode cX12_apart 92 = .ok (.iload_n 3, 1) := by decide +kernel
theorem dX12_apart_93 : decode cX12_apart 93 = .ok (.aload_n 0, 1) := by decide +kernel
theorem dX12_apart_94 : decode cX12_apart 94 = .ok (.getfield 234, 3) := by decide +kernel
theorem dX12_apart_97 : decode cX12_apart 97 = .ok (.if_icmp .ge 69, 3) := by decide +kernel
theorem dX12_apart_100 : decode cX12_apart 100 = .ok (.aload_n 0, 1) := by decide +kernel
theorem dX12_apart_101 : decode cX12_apart 101 = .ok (.iload_n 3, 1) := by decide +kernel
theorem dX12_apart_102 : decode cX12_apart 102 = .ok (.invokevirtual 237, 3) := by decide +kernel
theorem dX12_apart_105 : decode cX12_apart 105 = .ok (.istore 4, 2) := by decide +kernel
theorem dX12_apart_107 : decode cX12_apart 107 = .ok (.aload_n 0, 1) := by decide +kernel
theorem dX12_apart_108 : decode cX12_apart 108 = .ok (.getfield 86, 3) := by decide +kernel
theorem dX12_apart_111 : decode cX12_apart 111 = .ok (.iload 4, 2) := by decide +kernel
theorem dX12_apart_113 : decode cX12_apart 113 = .ok (.iaload, 1) := by decide +kernel
theorem dX12_apart_114 : decode cX12_apart 114 = .ok (.ifCond .ne 26, 3) := by decide +kernel
theorem dX12_apart_117 : decode cX12_apart 117 = .ok (.aload_n 0, 1) := by decide +kernel
theorem dX12_apart_118 : decode cX12_apart 118 = .ok (.getfield 86, 3) := by decide +kernel
theorem dX12_apart_121 : decode cX12_apart 121 = .ok (.iload 4, 2) := by decide +kernel
theorem dX12_apart_123 : decode cX12_apart 123 = .ok (.iload_n 3, 1) := by decide +kernel
theorem dX12_apart_124 : decode cX12_apart 124 = .ok (.iconst 1, 1) := by decide +kernel
theorem dX12_apart_125 : decode cX12_apart 125 = .ok (.iadd, 1) := by decide +kernel
theorem dX12_apart_126 : decode cX12_apart 126 = .ok (.iastore, 1) := by decide +kernel
theorem dX12_apart_127 : decode cX12_apart 127 = .ok (.aload_n 0, 1) := by decide +kernel
theorem dX12_apart_128 : decode cX12_apart 128 = .ok (.getfield 79, 3) := by decide +kernel
theorem dX12_apart_131 : decode cX12_apart 131 = .ok (.iload_n 3, 1) := by decide +kernel
theorem dX12_apart_132 : decode cX12_apart 132 = .ok (.iload_n 1, 1) := by decide +kernel
theorem dX12_apart_133 : decode cX12_apart 133 = .ok (.iastore, 1) := by decide +kernel
theorem dX12_apart_134 : decode cX12_apart 134 = .ok (.iinc 1 1, 3) := by decide +kernel
theorem dX12_apart_137 : decode cX12_apart 137 = .ok (.goto 23, 3) := by decide +kernel
theorem dX12_apart_140 : decode cX12_apart 140 = .ok (.aload_n 0, 1) := by decide +kernel
theorem dX12_apart_141 : decode cX12_apart 141 = .ok (.getfield 79, 3) := by decide +kernel
theorem dX12_apart_144 : decode cX12_apart 144 = .ok (.iload_n 3, 1) := by decide +kernel
theorem dX12_apart_145 : decode cX12_apart 145 = .ok (.aload_n 0, 1) := by decide +kernel
theorem dX12_apart_146 : decode cX12_apart 146 = .ok (.getfield 79, 3) := by decide +kernel
theorem dX12_apart_149 : decode cX12_apart 149 = .ok (.aload_n 0, 1) := by decide +kernel
theorem dX12_apart_150 : decode cX12_apart 150 = .ok (.getfield 86, 3) := by decide +kernel
theorem dX12_apart_153 : decode cX12_apart 153 = .ok (.iload 4, 2) := by decide +kernel
theorem dX12_apart_155 : decode cX12_apart 155 = .ok (.iaload, 1) := by decide +kernel
theorem dX12_apart_156 : decode cX12_apart 156 = .ok (.iconst 1, 1) := by decide +kernel
theorem dX12_apart_157 : decode cX12_apart 157 = .ok (.isub, 1) := by decide +kernel
theorem dX12_apart_158 : decode cX12_apart 158 = .ok (.iaload, 1) := by decide +kernel
theorem dX12_apart_159 : decode cX12_apart 159 = .ok (.iastore, 1) := by decide +kernel
theorem dX12_apart_160 : decode cX12_apart 160 = .ok (.iinc 3 1, 3) := by decide +kernel
theorem dX12_apart_163 : decode cX12_apart 163 = .ok (.goto (-71), 3) := by decide +kernel
theorem dX12_apart_166 : decode cX12_apart 166 = .ok (.goto (-134), 3) := by decide +kernel
theorem dX12_apart_169 : decode cX12_apart 169 = .ok (.return_, 1) := by decide +kernel
theorem dX12_least_0 : decode cX12_least 0 = .ok (.aload_n 0, 1) := by decide +kernel
theorem dX12_least_1 : decode cX12_least 1 = .ok (.invokevirtual 240, 3) := by decide +kernel
theorem dX12_least_4 : decode cX12_least 4 = .ok (.iconst 0, 1) := by decide +kernel
theorem dX12_least_5 : decode cX12_least 5 = .ok (.istore_n 1, 1) := by decide +kernel
theorem dX12_least_6 : decode cX12_least 6 = .ok (.iload_n 1, 1) := by decide +kernel
theorem dX12_least_7 : decode cX12_least 7 = .ok (.aload_n 0, 1) := by decide +kernel
theorem dX12_least_8 : decode cX12_least 8 = .ok (.getfield 234, 3) := by decide +kernel
theorem dX12_least_11 : decode cX12_least 11 = .ok (.if_icmp .ge 16, 3) := by decide +kernel
theorem dX12_least_14 : decode cX12_least 14 = .ok (.aload_n 0, 1) := by decide +kernel
theorem dX12_least_15 : decode cX12_least 15 = .ok (.getfield 92, 3) := by decide +kernel
theorem dX12_least_18 : decode cX12_least 18 = .ok (.iload_n 1, 1) := by decide +kernel
theorem dX12_least_19 : decode cX12_least 19 = .ok (.iconst (-1), 1) := by decide +kernel
theorem dX12_least_20 : decode cX12_least 20 = .ok (.iastore, 1) := by decide +kernel
theorem dX12_least_21 : decode cX12_least 21 = .ok (.iinc 1 1, 3) := by decide +kernel
theorem dX12_least_24 : decode cX12_least 24 = .ok (.goto (-18), 3) := by decide +kernel
theorem dX12_least_27 : decode cX12_least 27 = .ok (.aload_n 0, 1) := by decide +kernel
theorem dX12_least_28 : decode cX12_least 28 = .ok (.iconst 1, 1) := by decide +kernel
theorem dX12_least_29 : decode cX12_least 29 = .ok (.putfield 243, 3) := by decide +kernel
theorem dX12_least_32 : decode cX12_least 32 = .ok (.aload_n 0, 1) := by decide +kernel
theorem dX12_least_33 : decode cX12_least 33 = .ok (.getfield 89, 3) := by decide +kernel
theorem dX12_least_36 : decode cX12_least 36 = .ok (.iconst 0, 1) := by decide +kernel
theorem dX12_least_37 : decode cX12_least 37 = .ok (.iconst 0, 1) := by decide +kernel
theorem dX12_least_38 : decode cX12_least 38 = .ok (.iastore, 1) := by decide +kernel
theorem dX12_least_39 : decode cX12_least 39 = .ok (.aload_n 0, 1) := by decide +kernel
theorem dX12_least_40 : decode cX12_least 40 = .ok (.getfield 92, 3) := by decide +kernel
theorem dX12_least_43 : decode cX12_least 43 = .ok (.aload_n 0, 1) := by decide +kernel
theorem dX12_least_44 : decode cX12_least 44 = .ok (.getfield 79, 3) := by decide +kernel
theorem dX12_least_47 : decode cX12_least 47 = .ok (.iconst 0, 1) := by decide +kernel
theorem dX12_least_48 : decode cX12_least 48 = .ok (.iaload, 1) := by decide +kernel
theorem dX12_least_49 : decode cX12_least 49 = .ok (.iconst 0, 1) := by decide +kernel
theorem dX12_least_50 : decode cX12_least 50 = .ok (.iastore, 1) := by decide +kernel
theorem dX12_least_51 : decode cX12_least 51 = .ok (.iconst 0, 1) := by decide +kernel
theorem dX12_least_52 : decode cX12_least 52 = .ok (.istore_n 1, 1) := by decide +kernel
theorem dX12_least_53 : decode cX12_least 53 = .ok (.iload_n 1, 1) := by decide +kernel
theorem dX12_least_54 : decode cX12_least 54 = .ok (.aload_n 0, 1) := by decide +kernel
theorem dX12_least_55 : decode cX12_least 55 = .ok (.getfield 243, 3) := by decide +kernel
theorem dX12_least_58 : decode cX12_least 58 = .ok (.if_icmp .ge 92, 3) := by decide +kernel
theorem dX12_least_61 : decode cX12_least 61 = .ok (.iconst 0, 1) := by decide +kernel
theorem dX12_least_62 : decode cX12_least 62 = .ok (.istore_n 2, 1) := by decide +kernel
theorem dX12_least_63 : decode cX12_least 63 = .ok (.iload_n 2, 1) := by decide +kernel
theorem dX12_least_64 : decode cX12_least 64 = .ok (.aload_n 0, 1) := by decide +kernel
theorem dX12_least_65 : decode cX12_least 65 = .ok (.getfield 226, 3) := by decide +kernel
theorem dX12_least_68 : decode cX12_least 68 = .ok (.if_icmp .ge 76, 3) := by decide +kernel
theorem dX12_least_71 : decode cX12_least 71 = .ok (.aload_n 0, 1) := by decide +kernel
theorem dX12_least_72 : decode cX12_least 72 = .ok (.getfield 73, 3) := by decide +kernel
theorem dX12_least_75 : decode cX12_least 75 = .ok (.bipush 27, 2) := by decide +kernel
theorem dX12_least_77 : decode cX12_least 77 = .ok (.aload_n 0, 1) := by decide +kernel
theorem dX12_least_78 : decode cX12_least 78 = .ok (.getfield 89, 3) := by decide +kernel
theorem dX12_least_81 : decode cX12_least 81 = .ok (.iload_n 1, 1) := by decide +kernel
theorem dX12_least_82 : decode cX12_least 82 = .ok (.iaload, 1) := by decide +kernel
theorem dX12_least_83 : decode cX12_least 83 = .ok (.imul, 1) := by decide +kernel
theorem dX12_least_84 : decode cX12_least 84 = .ok (.iload_n 2, 1) := by decide +kernel
theorem dX12_least_85 : decode cX12_least 85 = .ok (.iadd, 1) := by decide +kernel
theorem dX12_least_86 : decode cX12_least 86 = .ok (.iaload, 1) := by decide +kernel
theorem dX12_least_87 : decode cX12_least 87 = .ok (.istore_n 3, 1) := by decide +kernel
theorem dX12_least_88 : decode cX12_least 88 = .ok (.aload_n 0, 1) := by decide +kernel
theorem dX12_least_89 : decode cX12_least 89 = .ok (.getfield 92, 3) := by decide +kernel
theorem dX12_least_92 : decode cX12_least 92 = .ok (.aload_n 0, 1) := by decide +kernel
theorem dX12_least_93 : decode cX12_least 93 = .ok (.getfield 79, 3) := by decide +kernel
theorem dX12_least_96 : decode cX12_least 96 = .ok (.iload_n 3, 1) := by decide +kernel
theorem dX12_least_97 : decode cX12_least 97 = .ok (.iaload, 1) := by decide +kernel
theorem dX12_least_98 : decode cX12_least 98 = .ok (.iaload, 1) := by decide +kernel
theorem dX12_least_99 : decode cX12_least 99 = .ok (.iconst (-1), 1) := by decide +kernel
theorem dX12_least_100 : decode cX12_least 100 = .ok (.if_icmp .ne 38, 3) := by decide +kernel
theorem dX12_least_103 : decode cX12_least 103 = .ok (.aload_n 0, 1) := by decide +kernel
theorem dX12_least_104 : decode cX12_least 104 = .ok (.getfield 92, 3) := by decide +kernel
theorem dX12_least_107 : decode cX12_least 107 = .ok (.aload_n 0, 1) := by decide +kernel
theorem dX12_least_108 : decode cX12_least 108 = .ok (.getfield 79, 3) := by decide +kernel
theorem dX12_least_111 : decode cX12_least 111 = .ok (.iload_n 3, 1) := by decide +kernel
theorem dX12_least_112 : decode cX12_least 112 = .ok (.iaload, 1) := by decide +kernel
theorem dX12_least_113 : decode cX12_least 113 = .ok (.aload_n 0, 1) := by decide +kernel
theorem dX12_least_114 : decode cX12_least 114 = .ok (.getfield 243, 3) := by decide +kernel
theorem dX12_least_117 : decode cX12_least 117 = .ok (.iastore, 1) := by decide +kernel
theorem dX12_least_118 : decode cX12_least 118 = .ok (.aload_n 0, 1) := by decide +kernel
theorem dX12_least_119 : decode cX12_least 119 = .ok (.getfield 89, 3) := by decide +kernel
theorem dX12_least_122 : decode cX12_least 122 = .ok (.aload_n 0, 1) := by decide +kernel
theorem dX12_least_123 : decode cX12_least 123 = .ok (.getfield 243, 3) := by decide +kernel
theorem dX12_least_126 : decode cX12_least 126 = .ok (.iload_n 3, 1) := by decide +kernel
theorem dX12_least_127 : decode cX12_least 127 = .ok (.iastore, 1) := by decide +kernel
theorem dX12_least_128 : decode cX12_least 128 = .ok (.aload_n 0, 1) := by decide +kernel
theorem dX12_least_129 : decode cX12_least 129 = .ok (.dup, 1) := by decide +kernel
theorem dX12_least_130 : decode cX12_least 130 = .ok (.getfield 243, 3) := by decide +kernel
theorem dX12_least_133 : decode cX12_least 133 = .ok (.iconst 1, 1) := by decide +kernel
theorem dX12_least_134 : decode cX12_least 134 = .ok (.iadd, 1) := by decide +kernel
theorem dX12_least_135 : decode cX12_least 135 = .ok (.putfield 243, 3) := by decide +kernel
theorem dX12_least_138 : decode cX12_least 138 = .ok (.iinc 2 1, 3) := by decide +kernel
theorem dX12_least_141 : decode cX12_least 141 = .ok (.goto (-78), 3) := by decide +kernel
theorem dX12_least_144 : decode cX12_least 144 = .ok (.iinc 1 1, 3) := by decide +kernel
theorem dX12_least_147 : decode cX12_least 147 = .ok (.goto (-94), 3) := by decide +kernel
theorem dX12_least_150 : decode cX12_least 150 = .ok (.return_, 1) := by decide +kernel
theorem dX12_stepOf_0 : decode cX12_stepOf 0 = .ok (.aload_n 0, 1) := by decide +kernel
theorem dX12_stepOf_1 : decode cX12_stepOf 1 = .ok (.getfield 92, 3) := by decide +kernel
theorem dX12_stepOf_4 : decode cX12_stepOf 4 = .ok (.aload_n 0, 1) := by decide +kernel
theorem dX12_stepOf_5 : decode cX12_stepOf 5 = .ok (.getfield 79, 3) := by decide +kernel
theorem dX12_stepOf_8 : decode cX12_stepOf 8 = .ok (.aload_n 0, 1) := by decide +kernel
theorem dX12_stepOf_9 : decode cX12_stepOf 9 = .ok (.getfield 73, 3) := by decide +kernel
theorem dX12_stepOf_12 : decode cX12_stepOf 12 = .ok (.bipush 27, 2) := by decide +kernel
theorem dX12_stepOf_14 : decode cX12_stepOf 14 = .ok (.aload_n 0, 1) := by decide +kernel
theorem dX12_stepOf_15 : decode cX12_stepOf 15 = .ok (.getfield 89, 3) := by decide +kernel
theorem dX12_stepOf_18 : decode cX12_stepOf 18 = .ok (.iload_n 1, 1) := by decide +kernel
theorem dX12_stepOf_19 : decode cX12_stepOf 19 = .ok (.iaload, 1) := by decide +kernel
theorem dX12_stepOf_20 : decode cX12_stepOf 20 = .ok (.imul, 1) := by decide +kernel
theorem dX12_stepOf_21 : decode cX12_stepOf 21 = .ok (.iload_n 2, 1) := by decide +kernel
theorem dX12_stepOf_22 : decode cX12_stepOf 22 = .ok (.iadd, 1) := by decide +kernel
theorem dX12_stepOf_23 : decode cX12_stepOf 23 = .ok (.iaload, 1) := by decide +kernel
theorem dX12_stepOf_24 : decode cX12_stepOf 24 = .ok (.iaload, 1) := by decide +kernel
theorem dX12_stepOf_25 : decode cX12_stepOf 25 = .ok (.iaload, 1) := by decide +kernel
theorem dX12_stepOf_26 : decode cX12_stepOf 26 = .ok (.ireturn, 1) := by decide +kernel
theorem dX12_newRow_0 : decode cX12_newRow 0 = .ok (.aload_n 0, 1) := by decide +kernel
theorem dX12_newRow_1 : decode cX12_newRow 1 = .ok (.getfield 13, 3) := by decide +kernel
theorem dX12_newRow_4 : decode cX12_newRow 4 = .ok (.aload_n 0, 1) := by decide +kernel
theorem dX12_newRow_5 : decode cX12_newRow 5 = .ok (.getfield 215, 3) := by decide +kernel
theorem dX12_newRow_8 : decode cX12_newRow 8 = .ok (.iload_n 1, 1) := by decide +kernel
theorem dX12_newRow_9 : decode cX12_newRow 9 = .ok (.iastore, 1) := by decide +kernel
theorem dX12_newRow_10 : decode cX12_newRow 10 = .ok (.aload_n 0, 1) := by decide +kernel
theorem dX12_newRow_11 : decode cX12_newRow 11 = .ok (.getfield 17, 3) := by decide +kernel
theorem dX12_newRow_14 : decode cX12_newRow 14 = .ok (.aload_n 0, 1) := by decide +kernel
theorem dX12_newRow_15 : decode cX12_newRow 15 = .ok (.getfield 215, 3) := by decide +kernel
theorem dX12_newRow_18 : decode cX12_newRow 18 = .ok (.aload_n 0, 1) := by decide +kernel
theorem dX12_newRow_19 : decode cX12_newRow 19 = .ok (.getfield 243, 3) := by decide +kernel
theorem dX12_newRow_22 : decode cX12_newRow 22 = .ok (.iastore, 1) := by decide +kernel
theorem dX12_newRow_23 : decode cX12_newRow 23 = .ok (.iconst 0, 1) := by decide +kernel
theorem dX12_newRow_24 : decode cX12_newRow 24 = .ok (.istore_n 2, 1) := by decide +kernel
theorem dX12_newRow_25 : decode cX12_newRow 25 = .ok (.iload_n 2, 1) := by decide +kernel
theorem dX12_newRow_26 : decode cX12_newRow 26 = .ok (.aload_n 0, 1) := by decide +kernel
theorem dX12_newRow_27 : decode cX12_newRow 27 = .ok (.getfield 243, 3) := by decide +kernel
theorem dX12_newRow_30 : decode cX12_newRow 30 = .ok (.if_icmp .ge 74, 3) := by decide +kernel
theorem dX12_newRow_33 : decode cX12_newRow 33 = .ok (.aload_n 0, 1) := by decide +kernel
theorem dX12_newRow_34 : decode cX12_newRow 34 = .ok (.getfield 23, 3) := by decide +kernel
theorem dX12_newRow_37 : decode cX12_newRow 37 = .ok (.bipush 60, 2) := by decide +kernel
theorem dX12_newRow_39 : decode cX12_newRow 39 = .ok (.aload_n 0, 1) := by decide +kernel
theorem dX12_newRow_40 : decode cX12_newRow 40 = .ok (.getfield 215, 3) := by decide +kernel
theorem dX12_newRow_43 : decode cX12_newRow 43 = .ok (.imul, 1) := by decide +kernel
theorem dX12_newRow_44 : decode cX12_newRow 44 = .ok (.iload_n 2, 1) := by decide +kernel
theorem dX12_newRow_45 : decode cX12_newRow 45 = .ok (.iadd, 1) := by decide +kernel
theorem dX12_newRow_46 : decode cX12_newRow 46 = .ok (.aload_n 0, 1) := by decide +kernel
theorem dX12_newRow_47 : decode cX12_newRow 47 = .ok (.getfield 76, 3) := by decide +kernel
theorem dX12_newRow_50 : decode cX12_newRow 50 = .ok (.aload_n 0, 1) := by decide +kernel
theorem dX12_newRow_51 : decode cX12_newRow 51 = .ok (.getfield 89, 3) := by decide +kernel
theorem dX12_newRow_54 : decode cX12_newRow 54 = .ok (.iload_n 2, 1) := by decide +kernel
theorem dX12_newRow_55 : decode cX12_newRow 55 = .ok (.iaload, 1) := by decide +kernel
theorem dX12_newRow_56 : decode cX12_newRow 56 = .ok (.iaload, 1) := by decide +kernel
theorem dX12_newRow_57 : decode cX12_newRow 57 = .ok (.iastore, 1) := by decide +kernel
theorem dX12_newRow_58 : decode cX12_newRow 58 = .ok (.iconst 0, 1) := by decide +kernel
theorem dX12_newRow_59 : decode cX12_newRow 59 = .ok (.istore_n 3, 1) := by decide +kernel
theorem dX12_newRow_60 : decode cX12_newRow 60 = .ok (.iload_n 3, 1) := by decide +kernel
theorem dX12_newRow_61 : decode cX12_newRow 61 = .ok (.aload_n 0, 1) := by decide +kernel
theorem dX12_newRow_62 : decode cX12_newRow 62 = .ok (.getfield 7, 3) := by decide +kernel
theorem dX12_newRow_65 : decode cX12_newRow 65 = .ok (.if_icmp .ge 33, 3) := by decide +kernel
theorem dX12_newRow_68 : decode cX12_newRow 68 = .ok (.aload_n 0, 1) := by decide +kernel
theorem dX12_newRow_69 : decode cX12_newRow 69 = .ok (.getfield 20, 3) := by decide +kernel
theorem dX12_newRow_72 : decode cX12_newRow 72 = .ok (.iconst 3, 1) := by decide +kernel
theorem dX12_newRow_73 : decode cX12_newRow 73 = .ok (.bipush 60, 2) := by decide +kernel
theorem dX12_newRow_75 : decode cX12_newRow 75 = .ok (.aload_n 0, 1) := by decide +kernel
theorem dX12_newRow_76 : decode cX12_newRow 76 = .ok (.getfield 215, 3) := by decide +kernel
theorem dX12_newRow_79 : decode cX12_newRow 79 = .ok (.imul, 1) := by decide +kernel
theorem dX12_newRow_80 : decode cX12_newRow 80 = .ok (.iload_n 2, 1) := by decide +kernel
theorem dX12_newRow_81 : decode cX12_newRow 81 = .ok (.iadd, 1) := by decide +kernel
theorem dX12_newRow_82 : decode cX12_newRow 82 = .ok (.imul, 1) := by decide +kernel
theorem dX12_newRow_83 : decode cX12_newRow 83 = .ok (.iload_n 3, 1) := by decide +kernel
theorem dX12_newRow_84 : decode cX12_newRow 84 = .ok (.iadd, 1) := by decide +kernel
theorem dX12_newRow_85 : decode cX12_newRow 85 = .ok (.aload_n 0, 1) := by decide +kernel
theorem dX12_newRow_86 : decode cX12_newRow 86 = .ok (.iload_n 2, 1) := by decide +kernel
theorem dX12_newRow_87 : decode cX12_newRow 87 = .ok (.iload_n 3, 1) := by decide +kernel
theorem dX12_newRow_88 : decode cX12_newRow 88 = .ok (.invokevirtual 246, 3) := by decide +kernel
theorem dX12_newRow_91 : decode cX12_newRow 91 = .ok (.iastore, 1) := by decide +kernel
theorem dX12_newRow_92 : decode cX12_newRow 92 = .ok (.iinc 3 1, 3) := by decide +kernel
theorem dX12_newRow_95 : decode cX12_newRow 95 = .ok (.goto (-35), 3) := by decide +kernel
theorem dX12_newRow_98 : decode cX12_newRow 98 = .ok (.iinc 2 1, 3) := by decide +kernel
theorem dX12_newRow_101 : decode cX12_newRow 101 = .ok (.goto (-76), 3) := by decide +kernel
theorem dX12_newRow_104 : decode cX12_newRow 104 = .ok (.aload_n 0, 1) := by decide +kernel
theorem dX12_newRow_105 : decode cX12_newRow 105 = .ok (.dup, 1) := by decide +kernel
theorem dX12_newRow_106 : decode cX12_newRow 106 = .ok (.getfield 215, 3) := by decide +kernel
theorem dX12_newRow_109 : decode cX12_newRow 109 = .ok (.iconst 1, 1) := by decide +kernel
theorem dX12_newRow_110 : decode cX12_newRow 110 = .ok (.iadd, 1) := by decide +kernel
theorem dX12_newRow_111 : decode cX12_newRow 111 = .ok (.putfield 215, 3) := by decide +kernel
theorem dX12_newRow_114 : decode cX12_newRow 114 = .ok (.aload_n 0, 1) := by decide +kernel
theorem dX12_newRow_115 : decode cX12_newRow 115 = .ok (.aload_n 0, 1) := by decide +kernel
theorem dX12_newRow_116 : decode cX12_newRow 116 = .ok (.getfield 215, 3) := by decide +kernel
theorem dX12_newRow_119 : decode cX12_newRow 119 = .ok (.iconst 1, 1) := by decide +kernel
theorem dX12_newRow_120 : decode cX12_newRow 120 = .ok (.isub, 1) := by decide +kernel
theorem dX12_newRow_121 : decode cX12_newRow 121 = .ok (.invokevirtual 250, 3) := by decide +kernel
theorem dX12_newRow_124 : decode cX12_newRow 124 = .ok (.ireturn, 1) := by decide +kernel
theorem dX12_rowTo_0 : decode cX12_rowTo 0 = .ok (.aload_n 0, 1) := by decide +kernel
theorem dX12_rowTo_1 : decode cX12_rowTo 1 = .ok (.getfield 20, 3) := by decide +kernel
theorem dX12_rowTo_4 : decode cX12_rowTo 4 = .ok (.iconst 3, 1) := by decide +kernel
theorem dX12_rowTo_5 : decode cX12_rowTo 5 = .ok (.bipush 60, 2) := by decide +kernel
theorem dX12_rowTo_7 : decode cX12_rowTo 7 = .ok (.iload_n 1, 1) := by decide +kernel
theorem dX12_rowTo_8 : decode cX12_rowTo 8 = .ok (.imul, 1) := by decide +kernel
theorem dX12_rowTo_9 : decode cX12_rowTo 9 = .ok (.iload_n 2, 1) := by decide +kernel
theorem dX12_rowTo_10 : decode cX12_rowTo 10 = .ok (.iadd, 1) := by decide +kernel
theorem dX12_rowTo_11 : decode cX12_rowTo 11 = .ok (.imul, 1) := by decide +kernel
theorem dX12_rowTo_12 : decode cX12_rowTo 12 = .ok (.iload_n 3, 1) := by decide +kernel
theorem dX12_rowTo_13 : decode cX12_rowTo 13 = .ok (.iadd, 1) := by decide +kernel
theorem dX12_rowTo_14 : decode cX12_rowTo 14 = .ok (.iaload, 1) := by decide +kernel
theorem dX12_rowTo_15 : decode cX12_rowTo 15 = .ok (.ireturn, 1) := by decide +kernel
theorem dX12_begin_0 : decode cX12_begin 0 = .ok (.iload_n 1, 1) := by decide +kernel
theorem dX12_begin_1 : decode cX12_begin 1 = .ok (.iconst 2, 1) := by decide +kernel
theorem dX12_begin_2 : decode cX12_begin 2 = .ok (.iconst 3, 1) := by decide +kernel
theorem dX12_begin_3 : decode cX12_begin 3 = .ok (.invokestatic 218, 3) := by decide +kernel
theorem dX12_begin_6 : decode cX12_begin 6 = .ok (.ifCond .ne 9, 3) := by decide +kernel
theorem dX12_begin_9 : decode cX12_begin 9 = .ok (.aload_n 0, 1) := by decide +kernel
theorem dX12_begin_10 : decode cX12_begin 10 = .ok (.iconst 1, 1) := by decide +kernel
theorem dX12_begin_11 : decode cX12_begin 11 = .ok (.invokevirtual 253, 3) := by decide +kernel
theorem dX12_begin_14 : decode cX12_begin 14 = .ok (.ireturn, 1) := by decide +kernel
theorem dX12_begin_15 : decode cX12_begin 15 = .ok (.aload_n 0, 1) := by decide +kernel
theorem dX12_begin_16 : decode cX12_begin 16 = .ok (.iload_n 1, 1) := by decide +kernel
theorem dX12_begin_17 : decode cX12_begin 17 = .ok (.putfield 7, 3) := by decide +kernel
theorem dX12_begin_20 : decode cX12_begin 20 = .ok (.aload_n 0, 1) := by decide +kernel
theorem dX12_begin_21 : decode cX12_begin 21 = .ok (.iconst 0, 1) := by decide +kernel
theorem dX12_begin_22 : decode cX12_begin 22 = .ok (.putfield 215, 3) := by decide +kernel
theorem dX12_begin_25 : decode cX12_begin 25 = .ok (.aload_n 0, 1) := by decide +kernel
theorem dX12_begin_26 : decode cX12_begin 26 = .ok (.iconst 0, 1) := by decide +kernel
theorem dX12_begin_27 : decode cX12_begin 27 = .ok (.putfield 256, 3) := by decide +kernel
theorem dX12_begin_30 : decode cX12_begin 30 = .ok (.aload_n 0, 1) := by decide +kernel
theorem dX12_begin_31 : decode cX12_begin 31 = .ok (.iconst 1, 1) := by decide +kernel
theorem dX12_begin_32 : decode cX12_begin 32 = .ok (.invokevirtual 250, 3) := by decide +kernel
theorem dX12_begin_35 : decode cX12_begin 35 = .ok (.ireturn, 1) := by decide +kernel
theorem dX12_sheet_0 : decode cX12_sheet 0 = .ok (.iload_n 1, 1) := by decide +kernel
theorem dX12_sheet_1 : decode cX12_sheet 1 = .ok (.iconst 0, 1) := by decide +kernel
theorem dX12_sheet_2 : decode cX12_sheet 2 = .ok (.iconst 5, 1) := by decide +kernel
theorem dX12_sheet_3 : decode cX12_sheet 3 = .ok (.invokestatic 218, 3) := by decide +kernel
theorem dX12_sheet_6 : decode cX12_sheet 6 = .ok (.ifCond .eq 27, 3) := by decide +kernel
theorem dX12_sheet_9 : decode cX12_sheet 9 = .ok (.iload_n 2, 1) := by decide +kernel
theorem dX12_sheet_10 : decode cX12_sheet 10 = .ok (.iconst (-1), 1) := by decide +kernel
theorem dX12_sheet_11 : decode cX12_sheet 11 = .ok (.iconst 2, 1) := by decide +kernel
theorem dX12_sheet_12 : decode cX12_sheet 12 = .ok (.invokestatic 218, 3) := by decide +kernel
theorem dX12_sheet_15 : decode cX12_sheet 15 = .ok (.ifCond .eq 18, 3) := by decide +kernel
theorem dX12_sheet_18 : decode cX12_sheet 18 = .ok (.iload_n 2, 1) := by decide +kernel
theorem dX12_sheet_19 : decode cX12_sheet 19 = .ok (.iconst (-1), 1) := by decide +kernel
theorem dX12_sheet_20 : decode cX12_sheet 20 = .ok (.if_icmp .eq 19, 3) := by decide +kernel
theorem dX12_sheet_23 : decode cX12_sheet 23 = .ok (.iload_n 3, 1) := by decide +kernel
theorem dX12_sheet_24 : decode cX12_sheet 24 = .ok (.iconst 0, 1) := by decide +kernel
theorem dX12_sheet_25 : decode cX12_sheet 25 = .ok (.bipush 40, 2) := by decide +kernel
theorem dX12_sheet_27 : decode cX12_sheet 27 = .ok (.invokestatic 218, 3) := by decide +kernel
theorem dX12_sheet_30 : decode cX12_sheet 30 = .ok (.ifCond .ne 9, 3) := by decide +kernel
theorem dX12_sheet_33 : decode cX12_sheet 33 = .ok (.aload_n 0, 1) := by decide +kernel
theorem dX12_sheet_34 : decode cX12_sheet 34 = .ok (.iconst 1, 1) := by decide +kernel
theorem dX12_sheet_35 : decode cX12_sheet 35 = .ok (.invokevirtual 253, 3) := by decide +kernel
theorem dX12_sheet_38 : decode cX12_sheet 38 = .ok (.ireturn, 1) := by decide +kernel
theorem dX12_sheet_39 : decode cX12_sheet 39 = .ok (.aload_n 0, 1) := by decide +kernel
theorem dX12_sheet_40 : decode cX12_sheet 40 = .ok (.getfield 60, 3) := by decide +kernel
theorem dX12_sheet_43 : decode cX12_sheet 43 = .ok (.iload_n 1, 1) := by decide +kernel
theorem dX12_sheet_44 : decode cX12_sheet 44 = .ok (.iload_n 2, 1) := by decide +kernel
theorem dX12_sheet_45 : decode cX12_sheet 45 = .ok (.iastore, 1) := by decide +kernel
theorem dX12_sheet_46 : decode cX12_sheet 46 = .ok (.aload_n 0, 1) := by decide +kernel
theorem dX12_sheet_47 : decode cX12_sheet 47 = .ok (.getfield 63, 3) := by decide +kernel
theorem dX12_sheet_50 : decode cX12_sheet 50 = .ok (.iload_n 1, 1) := by decide +kernel
theorem dX12_sheet_51 : decode cX12_sheet 51 = .ok (.iload_n 2, 1) := by decide +kernel
theorem dX12_sheet_52 : decode cX12_sheet 52 = .ok (.iconst (-1), 1) := by decide +kernel
theorem dX12_sheet_53 : decode cX12_sheet 53 = .ok (.if_icmp .ne 7, 3) := by decide +kernel
theorem dX12_sheet_56 : decode cX12_sheet 56 = .ok (.iconst 0, 1) := by decide +kernel
theorem dX12_sheet_57 : decode cX12_sheet 57 = .ok (.goto 4, 3) := by decide +kernel
theorem dX12_sheet_60 : decode cX12_sheet 60 = .ok (.iload_n 3, 1) := by decide +kernel
theorem dX12_sheet_61 : decode cX12_sheet 61 = .ok (.iastore, 1) := by decide +kernel
theorem dX12_sheet_62 : decode cX12_sheet 62 = .ok (.iconst 0, 1) := by decide +kernel
theorem dX12_sheet_63 : decode cX12_sheet 63 = .ok (.istore 4, 2) := by decide +kernel
theorem dX12_sheet_65 : decode cX12_sheet 65 = .ok (.iload 4, 2) := by decide +kernel
theorem dX12_sheet_67 : decode cX12_sheet 67 = .ok (.bipush 40, 2) := by decide +kernel
theorem dX12_sheet_69 : decode cX12_sheet 69 = .ok (.if_icmp .ge 22, 3) := by decide +kernel
theorem dX12_sheet_72 : decode cX12_sheet 72 = .ok (.aload_n 0, 1) := by decide +kernel
theorem dX12_sheet_73 : decode cX12_sheet 73 = .ok (.getfield 66, 3) := by decide +kernel
theorem dX12_sheet_76 : decode cX12_sheet 76 = .ok (.bipush 40, 2) := by decide +kernel
theorem dX12_sheet_78 : decode cX12_sheet 78 = .ok (.iload_n 1, 1) := by decide +kernel
theorem dX12_sheet_79 : decode cX12_sheet 79 = .ok (.imul, 1) := by decide +kernel
theorem dX12_sheet_80 : decode cX12_sheet 80 = .ok (.iload 4, 2) := by decide +kernel
theorem dX12_sheet_82 : decode cX12_sheet 82 = .ok (.iadd, 1) := by decide +kernel
theorem dX12_sheet_83 : decode cX12_sheet 83 = .ok (.iconst 0, 1) := by decide +kernel
theorem dX12_sheet_84 : decode cX12_sheet 84 = .ok (.iastore, 1) := by decide +kernel
theorem dX12_sheet_85 : decode cX12_sheet 85 = .ok (.iinc 4 1, 3) := by decide +kernel
theorem dX12_sheet_88 : decode cX12_sheet 88 = .ok (.goto (-23), 3) := by decide +kernel
theorem dX12_sheet_91 : decode cX12_sheet 91 = .ok (.aload_n 0, 1) := by decide +kernel
theorem dX12_sheet_92 : decode cX12_sheet 92 = .ok (.iconst 1, 1) := by decide +kernel
theorem dX12_sheet_93 : decode cX12_sheet 93 = .ok (.invokevirtual 250, 3) := by decide +kernel
theorem dX12_sheet_96 : decode cX12_sheet 96 = .ok (.ireturn, 1) := by decide +kernel
theorem dX12_cell_0 : decode cX12_cell 0 = .ok (.iload_n 1, 1) := by decide +kernel
theorem dX12_cell_1 : decode cX12_cell 1 = .ok (.iconst 0, 1) := by decide +kernel
theorem dX12_cell_2 : decode cX12_cell 2 = .ok (.iconst 5, 1) := by decide +kernel
theorem dX12_cell_3 : decode cX12_cell 3 = .ok (.invokestatic 218, 3) := by decide +kernel
theorem dX12_cell_6 : decode cX12_cell 6 = .ok (.ifCond .eq 13, 3) := by decide +kernel
theorem dX12_cell_9 : decode cX12_cell 9 = .ok (.iload_n 3, 1) := by decide +kernel
theorem dX12_cell_10 : decode cX12_cell 10 = .ok (.iconst 0, 1) := by decide +kernel
theorem dX12_cell_11 : decode cX12_cell 11 = .ok (.bipush 100, 2) := by decide +kernel
theorem dX12_cell_13 : decode cX12_cell 13 = .ok (.invokestatic 218, 3) := by decide +kernel
theorem dX12_cell_16 : decode cX12_cell 16 = .ok (.ifCond .ne 9, 3) := by decide +kernel
theorem dX12_cell_19 : decode cX12_cell 19 = .ok (.aload_n 0, 1) := by decide +kernel
theorem dX12_cell_20 : decode cX12_cell 20 = .ok (.iconst 1, 1) := by decide +kernel
theorem dX12_cell_21 : decode cX12_cell 21 = .ok (.invokevirtual 253, 3) := by decide +kernel
theorem dX12_cell_24 : decode cX12_cell 24 = .ok (.ireturn, 1) := by decide +kernel
theorem dX12_cell_25 : decode cX12_cell 25 = .ok (.aload_n 0, 1) := by decide +kernel
theorem dX12_cell_26 : decode cX12_cell 26 = .ok (.getfield 60, 3) := by decide +kernel
theorem dX12_cell_29 : decode cX12_cell 29 = .ok (.iload_n 1, 1) := by decide +kernel
theorem dX12_cell_30 : decode cX12_cell 30 = .ok (.iaload, 1) := by decide +kernel
theorem dX12_cell_31 : decode cX12_cell 31 = .ok (.iconst (-1), 1) := by decide +kernel
theorem dX12_cell_32 : decode cX12_cell 32 = .ok (.if_icmp .ne 10, 3) := by decide +kernel
theorem dX12_cell_35 : decode cX12_cell 35 = .ok (.aload_n 0, 1) := by decide +kernel
theorem dX12_cell_36 : decode cX12_cell 36 = .ok (.bipush 10, 2) := by decide +kernel
theorem dX12_cell_38 : decode cX12_cell 38 = .ok (.invokevirtual 253, 3) := by decide +kernel
theorem dX12_cell_41 : decode cX12_cell 41 = .ok (.ireturn, 1) := by decide +kernel
theorem dX12_cell_42 : decode cX12_cell 42 = .ok (.iload_n 2, 1) := by decide +kernel
theorem dX12_cell_43 : decode cX12_cell 43 = .ok (.iconst 0, 1) := by decide +kernel
theorem dX12_cell_44 : decode cX12_cell 44 = .ok (.aload_n 0, 1) := by decide +kernel
theorem dX12_cell_45 : decode cX12_cell 45 = .ok (.getfield 63, 3) := by decide +kernel
theorem dX12_cell_48 : decode cX12_cell 48 = .ok (.iload_n 1, 1) := by decide +kernel
theorem dX12_cell_49 : decode cX12_cell 49 = .ok (.iaload, 1) := by decide +kernel
theorem dX12_cell_50 : decode cX12_cell 50 = .ok (.iconst 1, 1) := by decide +kernel
theorem dX12_cell_51 : decode cX12_cell 51 = .ok (.isub, 1) := by decide +kernel
theorem dX12_cell_52 : decode cX12_cell 52 = .ok (.invokestatic 218, 3) := by decide +kernel
theorem dX12_cell_55 : decode cX12_cell 55 = .ok (.ifCond .ne 10, 3) := by decide +kernel
theorem dX12_cell_58 : decode cX12_cell 58 = .ok (.aload_n 0, 1) := by decide +kernel
theorem dX12_cell_59 : decode cX12_cell 59 = .ok (.bipush 12, 2) := by decide +kernel
theorem dX12_cell_61 : decode cX12_cell 61 = .ok (.invokevirtual 253, 3) := by decide +kernel
theorem dX12_cell_64 : decode cX12_cell 64 = .ok (.ireturn, 1) := by decide +kernel
theorem dX12_cell_65 : decode cX12_cell 65 = .ok (.aload_n 0, 1) := by decide +kernel
theorem dX12_cell_66 : decode cX12_cell 66 = .ok (.getfield 66, 3) := by decide +kernel
theorem dX12_cell_69 : decode cX12_cell 69 = .ok (.bipush 40, 2) := by decide +kernel
theorem dX12_cell_71 : decode cX12_cell 71 = .ok (.iload_n 1, 1) := by decide +kernel
theorem dX12_cell_72 : decode cX12_cell 72 = .ok (.imul, 1) := by decide +kernel
theorem dX12_cell_73 : decode cX12_cell 73 = .ok (.iload_n 2, 1) := by decide +kernel
theorem dX12_cell_74 : decode cX12_cell 74 = .ok (.iadd, 1) := by decide +kernel
theorem dX12_cell_75 : decode cX12_cell 75 = .ok (.iload_n 3, 1) := by decide +kernel
theorem dX12_cell_76 : decode cX12_cell 76 = .ok (.iastore, 1) := by decide +kernel
theorem dX12_cell_77 : decode cX12_cell 77 = .ok (.aload_n 0, 1) := by decide +kernel
theorem dX12_cell_78 : decode cX12_cell 78 = .ok (.iconst 1, 1) := by decide +kernel
theorem dX12_cell_79 : decode cX12_cell 79 = .ok (.invokevirtual 250, 3) := by decide +kernel
theorem dX12_cell_82 : decode cX12_cell 82 = .ok (.ireturn, 1) := by decide +kernel
theorem dX12_isAbove_0 : decode cX12_isAbove 0 = .ok (.iconst 0, 1) := by decide +kernel
theorem dX12_isAbove_1 : decode cX12_isAbove 1 = .ok (.istore 5, 2) := by decide +kernel
theorem dX12_isAbove_3 : decode cX12_isAbove 3 = .ok (.iload_n 2, 1) := by decide +kernel
theorem dX12_isAbove_4 : decode cX12_isAbove 4 = .ok (.istore 6, 2) := by decide +kernel
theorem dX12_isAbove_6 : decode cX12_isAbove 6 = .ok (.iload 6, 2) := by decide +kernel
theorem dX12_isAbove_8 : decode cX12_isAbove 8 = .ok (.iload_n 2, 1) := by decide +kernel
theorem dX12_isAbove_9 : decode cX12_isAbove 9 = .ok (.iload_n 3, 1) := by decide +kernel
theorem dX12_isAbove_10 : decode cX12_isAbove 10 = .ok (.iadd, 1) := by decide +kernel
theorem dX12_isAbove_11 : decode cX12_isAbove 11 = .ok (.if_icmp .ge 38, 3) := by decide +kernel
theorem dX12_isAbove_14 : decode cX12_isAbove 14 = .ok (.iload 5, 2) := by decide +kernel
theorem dX12_isAbove_16 : decode cX12_isAbove 16 = .ok (.ifCond .ne 20, 3) := by decide +kernel
theorem dX12_isAbove_19 : decode cX12_isAbove 19 = .ok (.aload_n 0, 1) := by decide +kernel
theorem dX12_isAbove_20 : decode cX12_isAbove 20 = .ok (.getfield 66, 3) := by decide +kernel
theorem dX12_isAbove_23 : decode cX12_isAbove 23 = .ok (.bipush 40, 2) := by decide +kernel
theorem dX12_isAbove_25 : decode cX12_isAbove 25 = .ok (.iload_n 1, 1) := by decide +kernel
theorem dX12_isAbove_26 : decode cX12_isAbove 26 = .ok (.imul, 1) := by decide +kernel
theorem dX12_isAbove_27 : decode cX12_isAbove 27 = .ok (.iload 6, 2) := by decide +kernel
theorem dX12_isAbove_29 : decode cX12_isAbove 29 = .ok (.iadd, 1) := by decide +kernel
theorem dX12_isAbove_30 : decode cX12_isAbove 30 = .ok (.iaload, 1) := by decide +kernel
theorem dX12_isAbove_31 : decode cX12_isAbove 31 = .ok (.iload 4, 2) := by decide +kernel
theorem dX12_isAbove_33 : decode cX12_isAbove 33 = .ok (.if_icmp .le 7, 3) := by decide +kernel
theorem dX12_isAbove_36 : decode cX12_isAbove 36 = .ok (.iconst 1, 1) := by decide +kernel
theorem dX12_isAbove_37 : decode cX12_isAbove 37 = .ok (.goto 4, 3) := by decide +kernel
theorem dX12_isAbove_40 : decode cX12_isAbove 40 = .ok (.iconst 0, 1) := by decide +kernel
theorem dX12_isAbove_41 : decode cX12_isAbove 41 = .ok (.istore 5, 2) := by decide +kernel
theorem dX12_isAbove_43 : decode cX12_isAbove 43 = .ok (.iinc 6 1, 3) := by decide +kernel
theorem dX12_isAbove_46 : decode cX12_isAbove 46 = .ok (.goto (-40), 3) := by decide +kernel
theorem dX12_isAbove_49 : decode cX12_isAbove 49 = .ok (.iload 5, 2) := by decide +kernel
theorem dX12_isAbove_51 : decode cX12_isAbove 51 = .ok (.ireturn, 1) := by decide +kernel
theorem dX12_isOther_0 : decode cX12_isOther 0 = .ok (.aload_n 0, 1) := by decide +kernel
theorem dX12_isOther_1 : decode cX12_isOther 1 = .ok (.getfield 60, 3) := by decide +kernel
theorem dX12_isOther_4 : decode cX12_isOther 4 = .ok (.iload_n 1, 1) := by decide +kernel
theorem dX12_isOther_5 : decode cX12_isOther 5 = .ok (.iaload, 1) := by decide +kernel
theorem dX12_isOther_6 : decode cX12_isOther 6 = .ok (.iconst (-1), 1) := by decide +kernel
theorem dX12_isOther_7 : decode cX12_isOther 7 = .ok (.if_icmp .eq 17, 3) := by decide +kernel
theorem dX12_isOther_10 : decode cX12_isOther 10 = .ok (.aload_n 0, 1) := by decide +kernel
theorem dX12_isOther_11 : decode cX12_isOther 11 = .ok (.getfield 60, 3) := by decide +kernel
theorem dX12_isOther_14 : decode cX12_isOther 14 = .ok (.iload_n 1, 1) := by decide +kernel
theorem dX12_isOther_15 : decode cX12_isOther 15 = .ok (.iaload, 1) := by decide +kernel
theorem dX12_isOther_16 : decode cX12_isOther 16 = .ok (.iload_n 2, 1) := by decide +kernel
theorem dX12_isOther_17 : decode cX12_isOther 17 = .ok (.if_icmp .eq 7, 3) := by decide +kernel
theorem dX12_isOther_20 : decode cX12_isOther 20 = .ok (.iconst 1, 1) := by decide +kernel
theorem dX12_isOther_21 : decode cX12_isOther 21 = .ok (.goto 4, 3) := by decide +kernel
theorem dX12_isOther_24 : decode cX12_isOther 24 = .ok (.iconst 0, 1) := by decide +kernel
theorem dX12_isOther_25 : decode cX12_isOther 25 = .ok (.ireturn, 1) := by decide +kernel
theorem dX12_machine_0 : decode cX12_machine 0 = .ok (.iload_n 1, 1) := by decide +kernel
theorem dX12_machine_1 : decode cX12_machine 1 = .ok (.iconst 0, 1) := by decide +kernel
theorem dX12_machine_2 : decode cX12_machine 2 = .ok (.iconst 5, 1) := by decide +kernel
theorem dX12_machine_3 : decode cX12_machine 3 = .ok (.invokestatic 218, 3) := by decide +kernel
theorem dX12_machine_6 : decode cX12_machine 6 = .ok (.ifCond .eq 32, 3) := by decide +kernel
theorem dX12_machine_9 : decode cX12_machine 9 = .ok (.iload_n 2, 1) := by decide +kernel
theorem dX12_machine_10 : decode cX12_machine 10 = .ok (.iconst 0, 1) := by decide +kernel
theorem dX12_machine_11 : decode cX12_machine 11 = .ok (.iconst 5, 1) := by decide +kernel
theorem dX12_machine_12 : decode cX12_machine 12 = .ok (.invokestatic 218, 3) := by decide +kernel
theorem dX12_machine_15 : decode cX12_machine 15 = .ok (.ifCond .eq 23, 3) := by decide +kernel
theorem dX12_machine_18 : decode cX12_machine 18 = .ok (.iload_n 3, 1) := by decide +kernel
theorem dX12_machine_19 : decode cX12_machine 19 = .ok (.iconst 0, 1) := by decide +kernel
theorem dX12_machine_20 : decode cX12_machine 20 = .ok (.iconst 2, 1) := by decide +kernel
theorem dX12_machine_21 : decode cX12_machine 21 = .ok (.invokestatic 218, 3) := by decide +kernel
theorem dX12_machine_24 : decode cX12_machine 24 = .ok (.ifCond .eq 14, 3) := by decide +kernel
theorem dX12_machine_27 : decode cX12_machine 27 = .ok (.iload 4, 2) := by decide +kernel
theorem dX12_machine_29 : decode cX12_machine 29 = .ok (.iconst 1, 1) := by decide +kernel
theorem dX12_machine_30 : decode cX12_machine 30 = .ok (.bipush 8, 2) := by decide +kernel
theorem dX12_machine_32 : decode cX12_machine 32 = .ok (.invokestatic 218, 3) := by decide +kernel
theorem dX12_machine_35 : decode cX12_machine 35 = .ok (.ifCond .ne 9, 3) := by decide +kernel
theorem dX12_machine_38 : decode cX12_machine 38 = .ok (.aload_n 0, 1) := by decide +kernel
theorem dX12_machine_39 : decode cX12_machine 39 = .ok (.iconst 1, 1) := by decide +kernel
theorem dX12_machine_40 : decode cX12_machine 40 = .ok (.invokevirtual 253, 3) := by decide +kernel
theorem dX12_machine_43 : decode cX12_machine 43 = .ok (.ireturn, 1) := by decide +kernel
theorem dX12_machine_44 : decode cX12_machine 44 = .ok (.aload_n 0, 1) := by decide +kernel
theorem dX12_machine_45 : decode cX12_machine 45 = .ok (.getfield 215, 3) := by decide +kernel
theorem dX12_machine_48 : decode cX12_machine 48 = .ok (.bipush 10, 2) := by decide +kernel
theorem dX12_machine_50 : decode cX12_machine 50 = .ok (.if_icmp .ne 9, 3) := by decide +kernel
theorem dX12_machine_53 : decode cX12_machine 53 = .ok (.aload_n 0, 1) := by decide +kernel
theorem dX12_machine_54 : decode cX12_machine 54 = .ok (.iconst 2, 1) := by decide +kernel
theorem dX12_machine_55 : decode cX12_machine 55 = .ok (.invokevirtual 253, 3) := by decide +kernel
theorem dX12_machine_58 : decode cX12_machine 58 = .ok (.ireturn, 1) := by decide +kernel
theorem dX12_machine_59 : decode cX12_machine 59 = .ok (.aload_n 0, 1) := by decide +kernel
theorem dX12_machine_60 : decode cX12_machine 60 = .ok (.iload_n 1, 1) := by decide +kernel
theorem dX12_machine_61 : decode cX12_machine 61 = .ok (.iload_n 3, 1) := by decide +kernel
theorem dX12_machine_62 : decode cX12_machine 62 = .ok (.invokevirtual 259, 3) := by decide +kernel
theorem dX12_machine_65 : decode cX12_machine 65 = .ok (.ifCond .ne 12, 3) := by decide +kernel
theorem dX12_machine_68 : decode cX12_machine 68 = .ok (.aload_n 0, 1) := by decide +kernel
theorem dX12_machine_69 : decode cX12_machine 69 = .ok (.iload_n 2, 1) := by decide +kernel
theorem dX12_machine_70 : decode cX12_machine 70 = .ok (.iload_n 3, 1) := by decide +kernel
theorem dX12_machine_71 : decode cX12_machine 71 = .ok (.invokevirtual 259, 3) := by decide +kernel
theorem dX12_machine_74 : decode cX12_machine 74 = .ok (.ifCond .eq 10, 3) := by decide +kernel
theorem dX12_machine_77 : decode cX12_machine 77 = .ok (.aload_n 0, 1) := by decide +kernel
theorem dX12_machine_78 : decode cX12_machine 78 = .ok (.bipush 11, 2) := by decide +kernel
theorem dX12_machine_80 : decode cX12_machine 80 = .ok (.invokevirtual 253, 3) := by decide +kernel
theorem dX12_machine_83 : decode cX12_machine 83 = .ok (.ireturn, 1) := by decide +kernel
theorem dX12_machine_84 : decode cX12_machine 84 = .ok (.aload_n 0, 1) := by decide +kernel
theorem dX12_machine_85 : decode cX12_machine 85 = .ok (.getfield 60, 3) := by decide +kernel
theorem dX12_machine_88 : decode cX12_machine 88 = .ok (.iload_n 1, 1) := by decide +kernel
theorem dX12_machine_89 : decode cX12_machine 89 = .ok (.iaload, 1) := by decide +kernel
theorem dX12_machine_90 : decode cX12_machine 90 = .ok (.iconst (-1), 1) := by decide +kernel
theorem dX12_machine_91 : decode cX12_machine 91 = .ok (.if_icmp .eq 7, 3) := by decide +kernel
theorem dX12_machine_94 : decode cX12_machine 94 = .ok (.iconst 1, 1) := by decide +kernel
theorem dX12_machine_95 : decode cX12_machine 95 = .ok (.goto 4, 3) := by decide +kernel
theorem dX12_machine_98 : decode cX12_machine 98 = .ok (.iconst 0, 1) := by decide +kernel
theorem dX12_machine_99 : decode cX12_machine 99 = .ok (.istore 5, 2) := by decide +kernel
theorem dX12_machine_101 : decode cX12_machine 101 = .ok (.aload_n 0, 1) := by decide +kernel
theorem dX12_machine_102 : decode cX12_machine 102 = .ok (.getfield 60, 3) := by decide +kernel
theorem dX12_machine_105 : decode cX12_machine 105 = .ok (.iload_n 2, 1) := by decide +kernel
theorem dX12_machine_106 : decode cX12_machine 106 = .ok (.iaload, 1) := by decide +kernel
theorem dX12_machine_107 : decode cX12_machine 107 = .ok (.iconst (-1), 1) := by decide +kernel
theorem dX12_machine_108 : decode cX12_machine 108 = .ok (.if_icmp .eq 7, 3) := by decide +kernel
theorem dX12_machine_111 : decode cX12_machine 111 = .ok (.iconst 1, 1) := by decide +kernel
theorem dX12_machine_112 : decode cX12_machine 112 = .ok (.goto 4, 3) := by decide +kernel
theorem dX12_machine_115 : decode cX12_machine 115 = .ok (.iconst 0, 1) := by decide +kernel
theorem dX12_machine_116 : decode cX12_machine 116 = .ok (.istore 6, 2) := by decide +kernel
theorem dX12_machine_118 : decode cX12_machine 118 = .ok (.iload 5, 2) := by decide +kernel
theorem dX12_machine_120 : decode cX12_machine 120 = .ok (.ifCond .eq 19, 3) := by decide +kernel
theorem dX12_machine_123 : decode cX12_machine 123 = .ok (.aload_n 0, 1) := by decide +kernel
theorem dX12_machine_124 : decode cX12_machine 124 = .ok (.getfield 63, 3) := by decide +kernel
theorem dX12_machine_127 : decode cX12_machine 127 = .ok (.iload_n 1, 1) := by decide +kernel
theorem dX12_machine_128 : decode cX12_machine 128 = .ok (.iaload, 1) := by decide +kernel
theorem dX12_machine_129 : decode cX12_machine 129 = .ok (.iload 4, 2) := by decide +kernel
theorem dX12_machine_131 : decode cX12_machine 131 = .ok (.aload_n 0, 1) := by decide +kernel
theorem dX12_machine_132 : decode cX12_machine 132 = .ok (.getfield 7, 3) := by decide +kernel
theorem dX12_machine_135 : decode cX12_machine 135 = .ok (.imul, 1) := by decide +kernel
theorem dX12_machine_136 : decode cX12_machine 136 = .ok (.if_icmp .lt 19, 3) := by decide +kernel
theorem dX12_machine_139 : decode cX12_machine 139 = .ok (.iload 6, 2) := by decide +kernel
theorem dX12_machine_141 : decode cX12_machine 141 = .ok (.ifCond .eq 21, 3) := by decide +kernel
theorem dX12_machine_144 : decode cX12_machine 144 = .ok (.aload_n 0, 1) := by decide +kernel
theorem dX12_machine_145 : decode cX12_machine 145 = .ok (.getfield 63, 3) := by decide +kernel
theorem dX12_machine_148 : decode cX12_machine 148 = .ok (.iload_n 2, 1) := by decide +kernel
theorem dX12_machine_149 : decode cX12_machine 149 = .ok (.iaload, 1) := by decide +kernel
theorem dX12_machine_150 : decode cX12_machine 150 = .ok (.iload 4, 2) := by decide +kernel
theorem dX12_machine_152 : decode cX12_machine 152 = .ok (.if_icmp .ge 10, 3) := by decide +kernel
theorem dX12_machine_155 : decode cX12_machine 155 = .ok (.aload_n 0, 1) := by decide +kernel
theorem dX12_machine_156 : decode cX12_machine 156 = .ok (.bipush 12, 2) := by decide +kernel
theorem dX12_machine_158 : decode cX12_machine 158 = .ok (.invokevirtual 253, 3) := by decide +kernel
theorem dX12_machine_161 : decode cX12_machine 161 = .ok (.ireturn, 1) := by decide +kernel
theorem dX12_machine_162 : decode cX12_machine 162 = .ok (.iload 5, 2) := by decide +kernel
theorem dX12_machine_164 : decode cX12_machine 164 = .ok (.ifCond .eq 23, 3) := by decide +kernel
theorem dX12_machine_167 : decode cX12_machine 167 = .ok (.aload_n 0, 1) := by decide +kernel
theorem dX12_machine_168 : decode cX12_machine 168 = .ok (.iload_n 1, 1) := by decide +kernel
theorem dX12_machine_169 : decode cX12_machine 169 = .ok (.iconst 0, 1) := by decide +kernel
theorem dX12_machine_170 : decode cX12_machine 170 = .ok (.iload 4, 2) := by decide +kernel
theorem dX12_machine_172 : decode cX12_machine 172 = .ok (.aload_n 0, 1) := by decide +kernel
theorem dX12_machine_173 : decode cX12_machine 173 = .ok (.getfield 7, 3) := by decide +kernel
theorem dX12_machine_176 : decode cX12_machine 176 = .ok (.imul, 1) := by decide +kernel
theorem dX12_machine_177 : decode cX12_machine 177 = .ok (.iload 4, 2) := by decide +kernel
theorem dX12_machine_179 : decode cX12_machine 179 = .ok (.iconst 1, 1) := by decide +kernel
theorem dX12_machine_180 : decode cX12_machine 180 = .ok (.isub, 1) := by decide +kernel
theorem dX12_machine_181 : decode cX12_machine 181 = .ok (.invokevirtual 262, 3) := by decide +kernel
theorem dX12_machine_184 : decode cX12_machine 184 = .ok (.ifCond .ne 21, 3) := by decide +kernel
theorem dX12_machine_187 : decode cX12_machine 187 = .ok (.iload 6, 2) := by decide +kernel
theorem dX12_machine_189 : decode cX12_machine 189 = .ok (.ifCond .eq 22, 3) := by decide +kernel
theorem dX12_machine_192 : decode cX12_machine 192 = .ok (.aload_n 0, 1) := by decide +kernel
theorem dX12_machine_193 : decode cX12_machine 193 = .ok (.iload_n 2, 1) := by decide +kernel
theorem dX12_machine_194 : decode cX12_machine 194 = .ok (.iconst 0, 1) := by decide +kernel
theorem dX12_machine_195 : decode cX12_machine 195 = .ok (.iload 4, 2) := by decide +kernel
theorem dX12_machine_197 : decode cX12_machine 197 = .ok (.bipush 7, 2) := by decide +kernel
theorem dX12_machine_199 : decode cX12_machine 199 = .ok (.invokevirtual 262, 3) := by decide +kernel
theorem dX12_machine_202 : decode cX12_machine 202 = .ok (.ifCond .eq 9, 3) := by decide +kernel
theorem dX12_machine_205 : decode cX12_machine 205 = .ok (.aload_n 0, 1) := by decide +kernel
theorem dX12_machine_206 : decode cX12_machine 206 = .ok (.iconst 3, 1) := by decide +kernel
theorem dX12_machine_207 : decode cX12_machine 207 = .ok (.invokevirtual 253, 3) := by decide +kernel
theorem dX12_machine_210 : decode cX12_machine 210 = .ok (.ireturn, 1) := by decide +kernel
theorem dX12_machine_211 : decode cX12_machine 211 = .ok (.aload_n 0, 1) := by decide +kernel
theorem dX12_machine_212 : decode cX12_machine 212 = .ok (.iload 4, 2) := by decide +kernel
theorem dX12_machine_214 : decode cX12_machine 214 = .ok (.iconst 1, 1) := by decide +kernel
theorem dX12_machine_215 : decode cX12_machine 215 = .ok (.iadd, 1) := by decide +kernel
theorem dX12_machine_216 : decode cX12_machine 216 = .ok (.putfield 234, 3) := by decide +kernel
theorem dX12_machine_219 : decode cX12_machine 219 = .ok (.aload_n 0, 1) := by decide +kernel
theorem dX12_machine_220 : decode cX12_machine 220 = .ok (.aload_n 0, 1) := by decide +kernel
theorem dX12_machine_221 : decode cX12_machine 221 = .ok (.getfield 7, 3) := by decide +kernel
theorem dX12_machine_224 : decode cX12_machine 224 = .ok (.putfield 226, 3) := by decide +kernel
theorem dX12_machine_227 : decode cX12_machine 227 = .ok (.iconst 0, 1) := by decide +kernel
theorem dX12_machine_228 : decode cX12_machine 228 = .ok (.istore 7, 2) := by decide +kernel
theorem dX12_machine_230 : decode cX12_machine 230 = .ok (.iload 7, 2) := by decide +kernel
theorem dX12_machine_232 : decode cX12_machine 232 = .ok (.iload 4, 2) := by decide +kernel
theorem dX12_machine_234 : decode cX12_machine 234 = .ok (.if_icmp .gt 132, 3) := by decide +kernel
theorem dX12_machine_237 : decode cX12_machine 237 = .ok (.iload 7, 2) := by decide +kernel
theorem dX12_machine_239 : decode cX12_machine 239 = .ok (.ifCond .ne 7, 3) := by decide +kernel
theorem dX12_machine_242 : decode cX12_machine 242 = .ok (.iconst 0, 1) := by decide +kernel
theorem dX12_machine_243 : decode cX12_machine 243 = .ok (.goto 7, 3) := by decide +kernel
theorem dX12_machine_246 : decode cX12_machine 246 = .ok (.iload 7, 2) := by decide +kernel
theorem dX12_machine_248 : decode cX12_machine 248 = .ok (.iconst 1, 1) := by decide +kernel
theorem dX12_machine_249 : decode cX12_machine 249 = .ok (.isub, 1) := by decide +kernel
theorem dX12_machine_250 : decode cX12_machine 250 = .ok (.istore 8, 2) := by decide +kernel
theorem dX12_machine_252 : decode cX12_machine 252 = .ok (.aload_n 0, 1) := by decide +kernel
theorem dX12_machine_253 : decode cX12_machine 253 = .ok (.getfield 76, 3) := by decide +kernel
theorem dX12_machine_256 : decode cX12_machine 256 = .ok (.iload 7, 2) := by decide +kernel
theorem dX12_machine_258 : decode cX12_machine 258 = .ok (.iload 6, 2) := by decide +kernel
theorem dX12_machine_260 : decode cX12_machine 260 = .ok (.ifCond .eq 18, 3) := by decide +kernel
theorem dX12_machine_263 : decode cX12_machine 263 = .ok (.aload_n 0, 1) := by decide +kernel
theorem dX12_machine_264 : decode cX12_machine 264 = .ok (.getfield 66, 3) := by decide +kernel
theorem dX12_machine_267 : decode cX12_machine 267 = .ok (.bipush 40, 2) := by decide +kernel
theorem dX12_machine_269 : decode cX12_machine 269 = .ok (.iload_n 2, 1) := by decide +kernel
theorem dX12_machine_270 : decode cX12_machine 270 = .ok (.imul, 1) := by decide +kernel
theorem dX12_machine_271 : decode cX12_machine 271 = .ok (.iload 8, 2) := by decide +kernel
theorem dX12_machine_273 : decode cX12_machine 273 = .ok (.iadd, 1) := by decide +kernel
theorem dX12_machine_274 : decode cX12_machine 274 = .ok (.iaload, 1) := by decide +kernel
theorem dX12_machine_275 : decode cX12_machine 275 = .ok (.goto 4, 3) := by decide +kernel
theorem dX12_machine_278 : decode cX12_machine 278 = .ok (.iconst 0, 1) := by decide +kernel
theorem dX12_machine_279 : decode cX12_machine 279 = .ok (.iastore, 1) := by decide +kernel
theorem dX12_machine_280 : decode cX12_machine 280 = .ok (.iconst 0, 1) := by decide +kernel
theorem dX12_machine_281 : decode cX12_machine 281 = .ok (.istore 9, 2) := by decide +kernel
theorem dX12_machine_283 : decode cX12_machine 283 = .ok (.iload 9, 2) := by decide +kernel
theorem dX12_machine_285 : decode cX12_machine 285 = .ok (.aload_n 0, 1) := by decide +kernel
theorem dX12_machine_286 : decode cX12_machine 286 = .ok (.getfield 7, 3) := by decide +kernel
theorem dX12_machine_289 : decode cX12_machine 289 = .ok (.if_icmp .ge 71, 3) := by decide +kernel
theorem dX12_machine_292 : decode cX12_machine 292 = .ok (.iload 5, 2) := by decide +kernel
theorem dX12_machine_294 : decode cX12_machine 294 = .ok (.ifCond .eq 26, 3) := by decide +kernel
theorem dX12_machine_297 : decode cX12_machine 297 = .ok (.aload_n 0, 1) := by decide +kernel
theorem dX12_machine_298 : decode cX12_machine 298 = .ok (.getfield 66, 3) := by decide +kernel
theorem dX12_machine_301 : decode cX12_machine 301 = .ok (.bipush 40, 2) := by decide +kernel
theorem dX12_machine_303 : decode cX12_machine 303 = .ok (.iload_n 1, 1) := by decide +kernel
theorem dX12_machine_304 : decode cX12_machine 304 = .ok (.imul, 1) := by decide +kernel
theorem dX12_machine_305 : decode cX12_machine 305 = .ok (.aload_n 0, 1) := by decide +kernel
theorem dX12_machine_306 : decode cX12_machine 306 = .ok (.getfield 7, 3) := by decide +kernel
theorem dX12_machine_309 : decode cX12_machine 309 = .ok (.iload 8, 2) := by decide +kernel
theorem dX12_machine_311 : decode cX12_machine 311 = .ok (.imul, 1) := by decide +kernel
theorem dX12_machine_312 : decode cX12_machine 312 = .ok (.iadd, 1) := by decide +kernel
theorem dX12_machine_313 : decode cX12_machine 313 = .ok (.iload 9, 2) := by decide +kernel
theorem dX12_machine_315 : decode cX12_machine 315 = .ok (.iadd, 1) := by decide +kernel
theorem dX12_machine_316 : decode cX12_machine 316 = .ok (.iaload, 1) := by decide +kernel
theorem dX12_machine_317 : decode cX12_machine 317 = .ok (.goto 4, 3) := by decide +kernel
theorem dX12_machine_320 : decode cX12_machine 320 = .ok (.iconst 0, 1) := by decide +kernel
theorem dX12_machine_321 : decode cX12_machine 321 = .ok (.istore 10, 2) := by decide +kernel
theorem dX12_machine_323 : decode cX12_machine 323 = .ok (.aload_n 0, 1) := by decide +kernel
theorem dX12_machine_324 : decode cX12_machine 324 = .ok (.getfield 73, 3) := by decide +kernel
theorem dX12_machine_327 : decode cX12_machine 327 = .ok (.bipush 27, 2) := by decide +kernel
theorem dX12_machine_329 : decode cX12_machine 329 = .ok (.iload 7, 2) := by decide +kernel
theorem dX12_machine_331 : decode cX12_machine 331 = .ok (.imul, 1) := by decide +kernel
theorem dX12_machine_332 : decode cX12_machine 332 = .ok (.iload 9, 2) := by decide +kernel
theorem dX12_machine_334 : decode cX12_machine 334 = .ok (.iadd, 1) := by decide +kernel
theorem dX12_machine_335 : decode cX12_machine 335 = .ok (.iload 7, 2) := by decide +kernel
theorem dX12_machine_337 : decode cX12_machine 337 = .ok (.ifCond .ne 12, 3) := by decide +kernel
theorem dX12_machine_340 : decode cX12_machine 340 = .ok (.iload 9, 2) := by decide +kernel
theorem dX12_machine_342 : decode cX12_machine 342 = .ok (.ifCond .ne 7, 3) := by decide +kernel
theorem dX12_machine_345 : decode cX12_machine 345 = .ok (.iconst 0, 1) := by decide +kernel
theorem dX12_machine_346 : decode cX12_machine 346 = .ok (.goto 7, 3) := by decide +kernel
theorem dX12_machine_349 : decode cX12_machine 349 = .ok (.iload 10, 2) := by decide +kernel
theorem dX12_machine_351 : decode cX12_machine 351 = .ok (.iconst 1, 1) := by decide +kernel
theorem dX12_machine_352 : decode cX12_machine 352 = .ok (.iadd, 1) := by decide +kernel
theorem dX12_machine_353 : decode cX12_machine 353 = .ok (.iastore, 1) := by decide +kernel
theorem dX12_machine_354 : decode cX12_machine 354 = .ok (.iinc 9 1, 3) := by decide +kernel
theorem dX12_machine_357 : decode cX12_machine 357 = .ok (.goto (-74), 3) := by decide +kernel
theorem dX12_machine_360 : decode cX12_machine 360 = .ok (.iinc 7 1, 3) := by decide +kernel
theorem dX12_machine_363 : decode cX12_machine 363 = .ok (.goto (-133), 3) := by decide +kernel
theorem dX12_machine_366 : decode cX12_machine 366 = .ok (.aload_n 0, 1) := by decide +kernel
theorem dX12_machine_367 : decode cX12_machine 367 = .ok (.invokevirtual 266, 3) := by decide +kernel
theorem dX12_machine_370 : decode cX12_machine 370 = .ok (.aload_n 0, 1) := by decide +kernel
theorem dX12_machine_371 : decode cX12_machine 371 = .ok (.iconst 0, 1) := by decide +kernel
theorem dX12_machine_372 : decode cX12_machine 372 = .ok (.invokevirtual 269, 3) := by decide +kernel
theorem dX12_machine_375 : decode cX12_machine 375 = .ok (.ireturn, 1) := by decide +kernel
theorem dX12_grown_0 : decode cX12_grown 0 = .ok (.iload_n 1, 1) := by decide +kernel
theorem dX12_grown_1 : decode cX12_grown 1 = .ok (.iconst 0, 1) := by decide +kernel
theorem dX12_grown_2 : decode cX12_grown 2 = .ok (.iconst 5, 1) := by decide +kernel
theorem dX12_grown_3 : decode cX12_grown 3 = .ok (.invokestatic 218, 3) := by decide +kernel
theorem dX12_grown_6 : decode cX12_grown 6 = .ok (.ifCond .eq 22, 3) := by decide +kernel
theorem dX12_grown_9 : decode cX12_grown 9 = .ok (.iload_n 2, 1) := by decide +kernel
theorem dX12_grown_10 : decode cX12_grown 10 = .ok (.iconst 0, 1) := by decide +kernel
theorem dX12_grown_11 : decode cX12_grown 11 = .ok (.iconst 2, 1) := by decide +kernel
theorem dX12_grown_12 : decode cX12_grown 12 = .ok (.invokestatic 218, 3) := by decide +kernel
theorem dX12_grown_15 : decode cX12_grown 15 = .ok (.ifCond .eq 13, 3) := by decide +kernel
theorem dX12_grown_18 : decode cX12_grown 18 = .ok (.iload_n 3, 1) := by decide +kernel
theorem dX12_grown_19 : decode cX12_grown 19 = .ok (.iconst 1, 1) := by decide +kernel
theorem dX12_grown_20 : decode cX12_grown 20 = .ok (.bipush 8, 2) := by decide +kernel
theorem dX12_grown_22 : decode cX12_grown 22 = .ok (.invokestatic 218, 3) := by decide +kernel
theorem dX12_grown_25 : decode cX12_grown 25 = .ok (.ifCond .ne 9, 3) := by decide +kernel
theorem dX12_grown_28 : decode cX12_grown 28 = .ok (.aload_n 0, 1) := by decide +kernel
theorem dX12_grown_29 : decode cX12_grown 29 = .ok (.iconst 1, 1) := by decide +kernel
theorem dX12_grown_30 : decode cX12_grown 30 = .ok (.invokevirtual 253, 3) := by decide +kernel
theorem dX12_grown_33 : decode cX12_grown 33 = .ok (.ireturn, 1) := by decide +kernel
theorem dX12_grown_34 : decode cX12_grown 34 = .ok (.aload_n 0, 1) := by decide +kernel
theorem dX12_grown_35 : decode cX12_grown 35 = .ok (.getfield 215, 3) := by decide +kernel
theorem dX12_grown_38 : decode cX12_grown 38 = .ok (.bipush 10, 2) := by decide +kernel
theorem dX12_grown_40 : decode cX12_grown 40 = .ok (.if_icmp .ne 9, 3) := by decide +kernel
theorem dX12_grown_43 : decode cX12_grown 43 = .ok (.aload_n 0, 1) := by decide +kernel
theorem dX12_grown_44 : decode cX12_grown 44 = .ok (.iconst 2, 1) := by decide +kernel
theorem dX12_grown_45 : decode cX12_grown 45 = .ok (.invokevirtual 253, 3) := by decide +kernel
theorem dX12_grown_48 : decode cX12_grown 48 = .ok (.ireturn, 1) := by decide +kernel
theorem dX12_grown_49 : decode cX12_grown 49 = .ok (.aload_n 0, 1) := by decide +kernel
theorem dX12_grown_50 : decode cX12_grown 50 = .ok (.getfield 60, 3) := by decide +kernel
theorem dX12_grown_53 : decode cX12_grown 53 = .ok (.iload_n 1, 1) := by decide +kernel
theorem dX12_grown_54 : decode cX12_grown 54 = .ok (.iaload, 1) := by decide +kernel
theorem dX12_grown_55 : decode cX12_grown 55 = .ok (.iconst (-1), 1) := by decide +kernel
theorem dX12_grown_56 : decode cX12_grown 56 = .ok (.if_icmp .ne 10, 3) := by decide +kernel
theorem dX12_grown_59 : decode cX12_grown 59 = .ok (.aload_n 0, 1) := by decide +kernel
theorem dX12_grown_60 : decode cX12_grown 60 = .ok (.bipush 10, 2) := by decide +kernel
theorem dX12_grown_62 : decode cX12_grown 62 = .ok (.invokevirtual 253, 3) := by decide +kernel
theorem dX12_grown_65 : decode cX12_grown 65 = .ok (.ireturn, 1) := by decide +kernel
theorem dX12_grown_66 : decode cX12_grown 66 = .ok (.aload_n 0, 1) := by decide +kernel
theorem dX12_grown_67 : decode cX12_grown 67 = .ok (.getfield 60, 3) := by decide +kernel
theorem dX12_grown_70 : decode cX12_grown 70 = .ok (.iload_n 1, 1) := by decide +kernel
theorem dX12_grown_71 : decode cX12_grown 71 = .ok (.iaload, 1) := by decide +kernel
theorem dX12_grown_72 : decode cX12_grown 72 = .ok (.iload_n 2, 1) := by decide +kernel
theorem dX12_grown_73 : decode cX12_grown 73 = .ok (.if_icmp .eq 10, 3) := by decide +kernel
theorem dX12_grown_76 : decode cX12_grown 76 = .ok (.aload_n 0, 1) := by decide +kernel
theorem dX12_grown_77 : decode cX12_grown 77 = .ok (.bipush 11, 2) := by decide +kernel
theorem dX12_grown_79 : decode cX12_grown 79 = .ok (.invokevirtual 253, 3) := by decide +kernel
theorem dX12_grown_82 : decode cX12_grown 82 = .ok (.ireturn, 1) := by decide +kernel
theorem dX12_grown_83 : decode cX12_grown 83 = .ok (.aload_n 0, 1) := by decide +kernel
theorem dX12_grown_84 : decode cX12_grown 84 = .ok (.getfield 63, 3) := by decide +kernel
theorem dX12_grown_87 : decode cX12_grown 87 = .ok (.iload_n 1, 1) := by decide +kernel
theorem dX12_grown_88 : decode cX12_grown 88 = .ok (.iaload, 1) := by decide +kernel
theorem dX12_grown_89 : decode cX12_grown 89 = .ok (.iload_n 3, 1) := by decide +kernel
theorem dX12_grown_90 : decode cX12_grown 90 = .ok (.aload_n 0, 1) := by decide +kernel
theorem dX12_grown_91 : decode cX12_grown 91 = .ok (.getfield 7, 3) := by decide +kernel
theorem dX12_grown_94 : decode cX12_grown 94 = .ok (.imul, 1) := by decide +kernel
theorem dX12_grown_95 : decode cX12_grown 95 = .ok (.if_icmp .ge 10, 3) := by decide +kernel
theorem dX12_grown_98 : decode cX12_grown 98 = .ok (.aload_n 0, 1) := by decide +kernel
theorem dX12_grown_99 : decode cX12_grown 99 = .ok (.bipush 12, 2) := by decide +kernel
theorem dX12_grown_101 : decode cX12_grown 101 = .ok (.invokevirtual 253, 3) := by decide +kernel
theorem dX12_grown_104 : decode cX12_grown 104 = .ok (.ireturn, 1) := by decide +kernel
theorem dX12_grown_105 : decode cX12_grown 105 = .ok (.aload_n 0, 1) := by decide +kernel
theorem dX12_grown_106 : decode cX12_grown 106 = .ok (.iload_n 1, 1) := by decide +kernel
theorem dX12_grown_107 : decode cX12_grown 107 = .ok (.iconst 0, 1) := by decide +kernel
theorem dX12_grown_108 : decode cX12_grown 108 = .ok (.iload_n 3, 1) := by decide +kernel
theorem dX12_grown_109 : decode cX12_grown 109 = .ok (.aload_n 0, 1) := by decide +kernel
theorem dX12_grown_110 : decode cX12_grown 110 = .ok (.getfield 7, 3) := by decide +kernel
theorem dX12_grown_113 : decode cX12_grown 113 = .ok (.imul, 1) := by decide +kernel
theorem dX12_grown_114 : decode cX12_grown 114 = .ok (.iload_n 3, 1) := by decide +kernel
theorem dX12_grown_115 : decode cX12_grown 115 = .ok (.iconst 1, 1) := by decide +kernel
theorem dX12_grown_116 : decode cX12_grown 116 = .ok (.isub, 1) := by decide +kernel
theorem dX12_grown_117 : decode cX12_grown 117 = .ok (.invokevirtual 262, 3) := by decide +kernel
theorem dX12_grown_120 : decode cX12_grown 120 = .ok (.ifCond .ne 15, 3) := by decide +kernel
theorem dX12_grown_123 : decode cX12_grown 123 = .ok (.aload_n 0, 1) := by decide +kernel
theorem dX12_grown_124 : decode cX12_grown 124 = .ok (.getfield 66, 3) := by decide +kernel
theorem dX12_grown_127 : decode cX12_grown 127 = .ok (.bipush 40, 2) := by decide +kernel
theorem dX12_grown_129 : decode cX12_grown 129 = .ok (.iload_n 1, 1) := by decide +kernel
theorem dX12_grown_130 : decode cX12_grown 130 = .ok (.imul, 1) := by decide +kernel
theorem dX12_grown_131 : decode cX12_grown 131 = .ok (.iaload, 1) := by decide +kernel
theorem dX12_grown_132 : decode cX12_grown 132 = .ok (.ifCond .eq 9, 3) := by decide +kernel
theorem dX12_grown_135 : decode cX12_grown 135 = .ok (.aload_n 0, 1) := by decide +kernel
theorem dX12_grown_136 : decode cX12_grown 136 = .ok (.iconst 3, 1) := by decide +kernel
theorem dX12_grown_137 : decode cX12_grown 137 = .ok (.invokevirtual 253, 3) := by decide +kernel
theorem dX12_grown_140 : decode cX12_grown 140 = .ok (.ireturn, 1) := by decide +kernel
theorem dX12_grown_141 : decode cX12_grown 141 = .ok (.aload_n 0, 1) := by decide +kernel
theorem dX12_grown_142 : decode cX12_grown 142 = .ok (.iload_n 3, 1) := by decide +kernel
theorem dX12_grown_143 : decode cX12_grown 143 = .ok (.putfield 234, 3) := by decide +kernel
theorem dX12_grown_146 : decode cX12_grown 146 = .ok (.aload_n 0, 1) := by decide +kernel
theorem dX12_grown_147 : decode cX12_grown 147 = .ok (.aload_n 0, 1) := by decide +kernel
theorem dX12_grown_148 : decode cX12_grown 148 = .ok (.getfield 7, 3) := by decide +kernel
theorem dX12_grown_151 : decode cX12_grown 151 = .ok (.putfield 226, 3) := by decide +kernel
theorem dX12_grown_154 : decode cX12_grown 154 = .ok (.iconst 0, 1) := by decide +kernel
theorem dX12_grown_155 : decode cX12_grown 155 = .ok (.istore 4, 2) := by decide +kernel
theorem dX12_grown_157 : decode cX12_grown 157 = .ok (.iload 4, 2) := by decide +kernel
theorem dX12_grown_159 : decode cX12_grown 159 = .ok (.iload_n 3, 1) := by decide +kernel
theorem dX12_grown_160 : decode cX12_grown 160 = .ok (.if_icmp .ge 69, 3) := by decide +kernel
theorem dX12_grown_163 : decode cX12_grown 163 = .ok (.aload_n 0, 1) := by decide +kernel
theorem dX12_grown_164 : decode cX12_grown 164 = .ok (.getfield 76, 3) := by decide +kernel
theorem dX12_grown_167 : decode cX12_grown 167 = .ok (.iload 4, 2) := by decide +kernel
theorem dX12_grown_169 : decode cX12_grown 169 = .ok (.iload 4, 2) := by decide +kernel
theorem dX12_grown_171 : decode cX12_grown 171 = .ok (.iastore, 1) := by decide +kernel
theorem dX12_grown_172 : decode cX12_grown 172 = .ok (.iconst 0, 1) := by decide +kernel
theorem dX12_grown_173 : decode cX12_grown 173 = .ok (.istore 5, 2) := by decide +kernel
theorem dX12_grown_175 : decode cX12_grown 175 = .ok (.iload 5, 2) := by decide +kernel
theorem dX12_grown_177 : decode cX12_grown 177 = .ok (.aload_n 0, 1) := by decide +kernel
theorem dX12_grown_178 : decode cX12_grown 178 = .ok (.getfield 7, 3) := by decide +kernel
theorem dX12_grown_181 : decode cX12_grown 181 = .ok (.if_icmp .ge 42, 3) := by decide +kernel
theorem dX12_grown_184 : decode cX12_grown 184 = .ok (.aload_n 0, 1) := by decide +kernel
theorem dX12_grown_185 : decode cX12_grown 185 = .ok (.getfield 73, 3) := by decide +kernel
theorem dX12_grown_188 : decode cX12_grown 188 = .ok (.bipush 27, 2) := by decide +kernel
theorem dX12_grown_190 : decode cX12_grown 190 = .ok (.iload 4, 2) := by decide +kernel
theorem dX12_grown_192 : decode cX12_grown 192 = .ok (.imul, 1) := by decide +kernel
theorem dX12_grown_193 : decode cX12_grown 193 = .ok (.iload 5, 2) := by decide +kernel
theorem dX12_grown_195 : decode cX12_grown 195 = .ok (.iadd, 1) := by decide +kernel
theorem dX12_grown_196 : decode cX12_grown 196 = .ok (.aload_n 0, 1) := by decide +kernel
theorem dX12_grown_197 : decode cX12_grown 197 = .ok (.getfield 66, 3) := by decide +kernel
theorem dX12_grown_200 : decode cX12_grown 200 = .ok (.bipush 40, 2) := by decide +kernel
theorem dX12_grown_202 : decode cX12_grown 202 = .ok (.iload_n 1, 1) := by decide +kernel
theorem dX12_grown_203 : decode cX12_grown 203 = .ok (.imul, 1) := by decide +kernel
theorem dX12_grown_204 : decode cX12_grown 204 = .ok (.aload_n 0, 1) := by decide +kernel
theorem dX12_grown_205 : decode cX12_grown 205 = .ok (.getfield 7, 3) := by decide +kernel
theorem dX12_grown_208 : decode cX12_grown 208 = .ok (.iload 4, 2) := by decide +kernel
theorem dX12_grown_210 : decode cX12_grown 210 = .ok (.imul, 1) := by decide +kernel
theorem dX12_grown_211 : decode cX12_grown 211 = .ok (.iadd, 1) := by decide +kernel
theorem dX12_grown_212 : decode cX12_grown 212 = .ok (.iload 5, 2) := by decide +kernel
theorem dX12_grown_214 : decode cX12_grown 214 = .ok (.iadd, 1) := by decide +kernel
theorem dX12_grown_215 : decode cX12_grown 215 = .ok (.iaload, 1) := by decide +kernel
theorem dX12_grown_216 : decode cX12_grown 216 = .ok (.iastore, 1) := by decide +kernel
theorem dX12_grown_217 : decode cX12_grown 217 = .ok (.iinc 5 1, 3) := by decide +kernel
theorem dX12_grown_220 : decode cX12_grown 220 = .ok (.goto (-45), 3) := by decide +kernel
theorem dX12_grown_223 : decode cX12_grown 223 = .ok (.iinc 4 1, 3) := by decide +kernel
theorem dX12_grown_226 : decode cX12_grown 226 = .ok (.goto (-69), 3) := by decide +kernel
theorem dX12_grown_229 : decode cX12_grown 229 = .ok (.aload_n 0, 1) := by decide +kernel
theorem dX12_grown_230 : decode cX12_grown 230 = .ok (.invokevirtual 266, 3) := by decide +kernel
theorem dX12_grown_233 : decode cX12_grown 233 = .ok (.aload_n 0, 1) := by decide +kernel
theorem dX12_grown_234 : decode cX12_grown 234 = .ok (.iconst 1, 1) := by decide +kernel
theorem dX12_grown_235 : decode cX12_grown 235 = .ok (.invokevirtual 269, 3) := by decide +kernel
theorem dX12_grown_238 : decode cX12_grown 238 = .ok (.ireturn, 1) := by decide +kernel
theorem dX12_ring_0 : decode cX12_ring 0 = .ok (.iload_n 1, 1) := by decide +kernel
theorem dX12_ring_1 : decode cX12_ring 1 = .ok (.iconst 0, 1) := by decide +kernel
theorem dX12_ring_2 : decode cX12_ring 2 = .ok (.iconst 5, 1) := by decide +kernel
theorem dX12_ring_3 : decode cX12_ring 3 = .ok (.invokestatic 218, 3) := by decide +kernel
theorem dX12_ring_6 : decode cX12_ring 6 = .ok (.ifCond .eq 33, 3) := by decide +kernel
theorem dX12_ring_9 : decode cX12_ring 9 = .ok (.iload_n 2, 1) := by decide +kernel
theorem dX12_ring_10 : decode cX12_ring 10 = .ok (.iconst 0, 1) := by decide +kernel
theorem dX12_ring_11 : decode cX12_ring 11 = .ok (.iconst 2, 1) := by decide +kernel
theorem dX12_ring_12 : decode cX12_ring 12 = .ok (.invokestatic 218, 3) := by decide +kernel
theorem dX12_ring_15 : decode cX12_ring 15 = .ok (.ifCond .eq 24, 3) := by decide +kernel
theorem dX12_ring_18 : decode cX12_ring 18 = .ok (.iload_n 3, 1) := by decide +kernel
theorem dX12_ring_19 : decode cX12_ring 19 = .ok (.iconst 0, 1) := by decide +kernel
theorem dX12_ring_20 : decode cX12_ring 20 = .ok (.bipush 6, 2) := by decide +kernel
theorem dX12_ring_22 : decode cX12_ring 22 = .ok (.invokestatic 218, 3) := by decide +kernel
theorem dX12_ring_25 : decode cX12_ring 25 = .ok (.ifCond .eq 14, 3) := by decide +kernel
theorem dX12_ring_28 : decode cX12_ring 28 = .ok (.iload 4, 2) := by decide +kernel
theorem dX12_ring_30 : decode cX12_ring 30 = .ok (.iconst 1, 1) := by decide +kernel
theorem dX12_ring_31 : decode cX12_ring 31 = .ok (.bipush 6, 2) := by decide +kernel
theorem dX12_ring_33 : decode cX12_ring 33 = .ok (.invokestatic 218, 3) := by decide +kernel
theorem dX12_ring_36 : decode cX12_ring 36 = .ok (.ifCond .ne 9, 3) := by decide +kernel
theorem dX12_ring_39 : decode cX12_ring 39 = .ok (.aload_n 0, 1) := by decide +kernel
theorem dX12_ring_40 : decode cX12_ring 40 = .ok (.iconst 1, 1) := by decide +kernel
theorem dX12_ring_41 : decode cX12_ring 41 = .ok (.invokevirtual 253, 3) := by decide +kernel
theorem dX12_ring_44 : decode cX12_ring 44 = .ok (.ireturn, 1) := by decide +kernel
theorem dX12_ring_45 : decode cX12_ring 45 = .ok (.aload_n 0, 1) := by decide +kernel
theorem dX12_ring_46 : decode cX12_ring 46 = .ok (.getfield 215, 3) := by decide +kernel
theorem dX12_ring_49 : decode cX12_ring 49 = .ok (.bipush 10, 2) := by decide +kernel
theorem dX12_ring_51 : decode cX12_ring 51 = .ok (.if_icmp .ne 9, 3) := by decide +kernel
theorem dX12_ring_54 : decode cX12_ring 54 = .ok (.aload_n 0, 1) := by decide +kernel
theorem dX12_ring_55 : decode cX12_ring 55 = .ok (.iconst 2, 1) := by decide +kernel
theorem dX12_ring_56 : decode cX12_ring 56 = .ok (.invokevirtual 253, 3) := by decide +kernel
theorem dX12_ring_59 : decode cX12_ring 59 = .ok (.ireturn, 1) := by decide +kernel
theorem dX12_ring_60 : decode cX12_ring 60 = .ok (.aload_n 0, 1) := by decide +kernel
theorem dX12_ring_61 : decode cX12_ring 61 = .ok (.getfield 60, 3) := by decide +kernel
theorem dX12_ring_64 : decode cX12_ring 64 = .ok (.iload_n 1, 1) := by decide +kernel
theorem dX12_ring_65 : decode cX12_ring 65 = .ok (.iaload, 1) := by decide +kernel
theorem dX12_ring_66 : decode cX12_ring 66 = .ok (.iconst (-1), 1) := by decide +kernel
theorem dX12_ring_67 : decode cX12_ring 67 = .ok (.if_icmp .ne 10, 3) := by decide +kernel
theorem dX12_ring_70 : decode cX12_ring 70 = .ok (.aload_n 0, 1) := by decide +kernel
theorem dX12_ring_71 : decode cX12_ring 71 = .ok (.bipush 10, 2) := by decide +kernel
theorem dX12_ring_73 : decode cX12_ring 73 = .ok (.invokevirtual 253, 3) := by decide +kernel
theorem dX12_ring_76 : decode cX12_ring 76 = .ok (.ireturn, 1) := by decide +kernel
theorem dX12_ring_77 : decode cX12_ring 77 = .ok (.aload_n 0, 1) := by decide +kernel
theorem dX12_ring_78 : decode cX12_ring 78 = .ok (.getfield 60, 3) := by decide +kernel
theorem dX12_ring_81 : decode cX12_ring 81 = .ok (.iload_n 1, 1) := by decide +kernel
theorem dX12_ring_82 : decode cX12_ring 82 = .ok (.iaload, 1) := by decide +kernel
theorem dX12_ring_83 : decode cX12_ring 83 = .ok (.iload_n 2, 1) := by decide +kernel
theorem dX12_ring_84 : decode cX12_ring 84 = .ok (.if_icmp .eq 10, 3) := by decide +kernel
theorem dX12_ring_87 : decode cX12_ring 87 = .ok (.aload_n 0, 1) := by decide +kernel
theorem dX12_ring_88 : decode cX12_ring 88 = .ok (.bipush 11, 2) := by decide +kernel
theorem dX12_ring_90 : decode cX12_ring 90 = .ok (.invokevirtual 253, 3) := by decide +kernel
theorem dX12_ring_93 : decode cX12_ring 93 = .ok (.ireturn, 1) := by decide +kernel
theorem dX12_ring_94 : decode cX12_ring 94 = .ok (.aload_n 0, 1) := by decide +kernel
theorem dX12_ring_95 : decode cX12_ring 95 = .ok (.getfield 63, 3) := by decide +kernel
theorem dX12_ring_98 : decode cX12_ring 98 = .ok (.iload_n 1, 1) := by decide +kernel
theorem dX12_ring_99 : decode cX12_ring 99 = .ok (.iaload, 1) := by decide +kernel
theorem dX12_ring_100 : decode cX12_ring 100 = .ok (.iload_n 3, 1) := by decide +kernel
theorem dX12_ring_101 : decode cX12_ring 101 = .ok (.iload 4, 2) := by decide +kernel
theorem dX12_ring_103 : decode cX12_ring 103 = .ok (.iadd, 1) := by decide +kernel
theorem dX12_ring_104 : decode cX12_ring 104 = .ok (.if_icmp .ge 10, 3) := by decide +kernel
theorem dX12_ring_107 : decode cX12_ring 107 = .ok (.aload_n 0, 1) := by decide +kernel
theorem dX12_ring_108 : decode cX12_ring 108 = .ok (.bipush 12, 2) := by decide +kernel
theorem dX12_ring_110 : decode cX12_ring 110 = .ok (.invokevirtual 253, 3) := by decide +kernel
theorem dX12_ring_113 : decode cX12_ring 113 = .ok (.ireturn, 1) := by decide +kernel
theorem dX12_ring_114 : decode cX12_ring 114 = .ok (.aload_n 0, 1) := by decide +kernel
theorem dX12_ring_115 : decode cX12_ring 115 = .ok (.iload_n 1, 1) := by decide +kernel
theorem dX12_ring_116 : decode cX12_ring 116 = .ok (.iconst 0, 1) := by decide +kernel
theorem dX12_ring_117 : decode cX12_ring 117 = .ok (.iload_n 3, 1) := by decide +kernel
theorem dX12_ring_118 : decode cX12_ring 118 = .ok (.iload 4, 2) := by decide +kernel
theorem dX12_ring_120 : decode cX12_ring 120 = .ok (.iadd, 1) := by decide +kernel
theorem dX12_ring_121 : decode cX12_ring 121 = .ok (.bipush 7, 2) := by decide +kernel
theorem dX12_ring_123 : decode cX12_ring 123 = .ok (.invokevirtual 262, 3) := by decide +kernel
theorem dX12_ring_126 : decode cX12_ring 126 = .ok (.ifCond .eq 9, 3) := by decide +kernel
theorem dX12_ring_129 : decode cX12_ring 129 = .ok (.aload_n 0, 1) := by decide +kernel
theorem dX12_ring_130 : decode cX12_ring 130 = .ok (.iconst 3, 1) := by decide +kernel
theorem dX12_ring_131 : decode cX12_ring 131 = .ok (.invokevirtual 253, 3) := by decide +kernel
theorem dX12_ring_134 : decode cX12_ring 134 = .ok (.ireturn, 1) := by decide +kernel
theorem dX12_ring_135 : decode cX12_ring 135 = .ok (.aload_n 0, 1) := by decide +kernel
theorem dX12_ring_136 : decode cX12_ring 136 = .ok (.iload_n 3, 1) := by decide +kernel
theorem dX12_ring_137 : decode cX12_ring 137 = .ok (.iload 4, 2) := by decide +kernel
theorem dX12_ring_139 : decode cX12_ring 139 = .ok (.iadd, 1) := by decide +kernel
theorem dX12_ring_140 : decode cX12_ring 140 = .ok (.putfield 234, 3) := by decide +kernel
theorem dX12_ring_143 : decode cX12_ring 143 = .ok (.aload_n 0, 1) := by decide +kernel
theorem dX12_ring_144 : decode cX12_ring 144 = .ok (.aload_n 0, 1) := by decide +kernel
theorem dX12_ring_145 : decode cX12_ring 145 = .ok (.getfield 7, 3) := by decide +kernel
theorem dX12_ring_148 : decode cX12_ring 148 = .ok (.putfield 226, 3) := by decide +kernel
theorem dX12_ring_151 : decode cX12_ring 151 = .ok (.iconst 0, 1) := by decide +kernel
theorem dX12_ring_152 : decode cX12_ring 152 = .ok (.istore 5, 2) := by decide +kernel
theorem dX12_ring_154 : decode cX12_ring 154 = .ok (.iload 5, 2) := by decide +kernel
theorem dX12_ring_156 : decode cX12_ring 156 = .ok (.aload_n 0, 1) := by decide +kernel
theorem dX12_ring_157 : decode cX12_ring 157 = .ok (.getfield 234, 3) := by decide +kernel
theorem dX12_ring_160 : decode cX12_ring 160 = .ok (.if_icmp .ge 94, 3) := by decide +kernel
theorem dX12_ring_163 : decode cX12_ring 163 = .ok (.aload_n 0, 1) := by decide +kernel
theorem dX12_ring_164 : decode cX12_ring 164 = .ok (.getfield 76, 3) := by decide +kernel
theorem dX12_ring_167 : decode cX12_ring 167 = .ok (.iload 5, 2) := by decide +kernel
theorem dX12_ring_169 : decode cX12_ring 169 = .ok (.aload_n 0, 1) := by decide +kernel
theorem dX12_ring_170 : decode cX12_ring 170 = .ok (.getfield 66, 3) := by decide +kernel
theorem dX12_ring_173 : decode cX12_ring 173 = .ok (.bipush 40, 2) := by decide +kernel
theorem dX12_ring_175 : decode cX12_ring 175 = .ok (.iload_n 1, 1) := by decide +kernel
theorem dX12_ring_176 : decode cX12_ring 176 = .ok (.imul, 1) := by decide +kernel
theorem dX12_ring_177 : decode cX12_ring 177 = .ok (.iload 5, 2) := by decide +kernel
theorem dX12_ring_179 : decode cX12_ring 179 = .ok (.iadd, 1) := by decide +kernel
theorem dX12_ring_180 : decode cX12_ring 180 = .ok (.iaload, 1) := by decide +kernel
theorem dX12_ring_181 : decode cX12_ring 181 = .ok (.iastore, 1) := by decide +kernel
theorem dX12_ring_182 : decode cX12_ring 182 = .ok (.iconst 0, 1) := by decide +kernel
theorem dX12_ring_183 : decode cX12_ring 183 = .ok (.istore 6, 2) := by decide +kernel
theorem dX12_ring_185 : decode cX12_ring 185 = .ok (.iload 6, 2) := by decide +kernel
theorem dX12_ring_187 : decode cX12_ring 187 = .ok (.aload_n 0, 1) := by decide +kernel
theorem dX12_ring_188 : decode cX12_ring 188 = .ok (.getfield 7, 3) := by decide +kernel
theorem dX12_ring_191 : decode cX12_ring 191 = .ok (.if_icmp .ge 57, 3) := by decide +kernel
theorem dX12_ring_194 : decode cX12_ring 194 = .ok (.aload_n 0, 1) := by decide +kernel
theorem dX12_ring_195 : decode cX12_ring 195 = .ok (.getfield 7, 3) := by decide +kernel
theorem dX12_ring_198 : decode cX12_ring 198 = .ok (.iload 5, 2) := by decide +kernel
theorem dX12_ring_200 : decode cX12_ring 200 = .ok (.imul, 1) := by decide +kernel
theorem dX12_ring_201 : decode cX12_ring 201 = .ok (.iload 6, 2) := by decide +kernel
theorem dX12_ring_203 : decode cX12_ring 203 = .ok (.iadd, 1) := by decide +kernel
theorem dX12_ring_204 : decode cX12_ring 204 = .ok (.istore 7, 2) := by decide +kernel
theorem dX12_ring_206 : decode cX12_ring 206 = .ok (.aload_n 0, 1) := by decide +kernel
theorem dX12_ring_207 : decode cX12_ring 207 = .ok (.getfield 73, 3) := by decide +kernel
theorem dX12_ring_210 : decode cX12_ring 210 = .ok (.bipush 27, 2) := by decide +kernel
theorem dX12_ring_212 : decode cX12_ring 212 = .ok (.iload 5, 2) := by decide +kernel
theorem dX12_ring_214 : decode cX12_ring 214 = .ok (.imul, 1) := by decide +kernel
theorem dX12_ring_215 : decode cX12_ring 215 = .ok (.iload 6, 2) := by decide +kernel
theorem dX12_ring_217 : decode cX12_ring 217 = .ok (.iadd, 1) := by decide +kernel
theorem dX12_ring_218 : decode cX12_ring 218 = .ok (.iload 7, 2) := by decide +kernel
theorem dX12_ring_220 : decode cX12_ring 220 = .ok (.aload_n 0, 1) := by decide +kernel
theorem dX12_ring_221 : decode cX12_ring 221 = .ok (.getfield 234, 3) := by decide +kernel
theorem dX12_ring_224 : decode cX12_ring 224 = .ok (.if_icmp .ge 8, 3) := by decide +kernel
theorem dX12_ring_227 : decode cX12_ring 227 = .ok (.iload 7, 2) := by decide +kernel
theorem dX12_ring_229 : decode cX12_ring 229 = .ok (.goto 12, 3) := by decide +kernel
theorem dX12_ring_232 : decode cX12_ring 232 = .ok (.iload_n 3, 1) := by decide +kernel
theorem dX12_ring_233 : decode cX12_ring 233 = .ok (.iload 7, 2) := by decide +kernel
theorem dX12_ring_235 : decode cX12_ring 235 = .ok (.iload_n 3, 1) := by decide +kernel
theorem dX12_ring_236 : decode cX12_ring 236 = .ok (.isub, 1) := by decide +kernel
theorem dX12_ring_237 : decode cX12_ring 237 = .ok (.iload 4, 2) := by decide +kernel
theorem dX12_ring_239 : decode cX12_ring 239 = .ok (.irem, 1) := by decide +kernel
theorem dX12_ring_240 : decode cX12_ring 240 = .ok (.iadd, 1) := by decide +kernel
theorem dX12_ring_241 : decode cX12_ring 241 = .ok (.iastore, 1) := by decide +kernel
theorem dX12_ring_242 : decode cX12_ring 242 = .ok (.iinc 6 1, 3) := by decide +kernel
theorem dX12_ring_245 : decode cX12_ring 245 = .ok (.goto (-60), 3) := by decide +kernel
theorem dX12_ring_248 : decode cX12_ring 248 = .ok (.iinc 5 1, 3) := by decide +kernel
theorem dX12_ring_251 : decode cX12_ring 251 = .ok (.goto (-97), 3) := by decide +kernel
theorem dX12_ring_254 : decode cX12_ring 254 = .ok (.aload_n 0, 1) := by decide +kernel
theorem dX12_ring_255 : decode cX12_ring 255 = .ok (.invokevirtual 266, 3) := by decide +kernel
theorem dX12_ring_258 : decode cX12_ring 258 = .ok (.aload_n 0, 1) := by decide +kernel
theorem dX12_ring_259 : decode cX12_ring 259 = .ok (.iconst 2, 1) := by decide +kernel
theorem dX12_ring_260 : decode cX12_ring 260 = .ok (.invokevirtual 269, 3) := by decide +kernel
theorem dX12_ring_263 : decode cX12_ring 263 = .ok (.ireturn, 1) := by decide +kernel
theorem dX12_paired_0 : decode cX12_paired 0 = .ok (.aload_n 0, 1) := by decide +kernel
theorem dX12_paired_1 : decode cX12_paired 1 = .ok (.getfield 95, 3) := by decide +kernel
theorem dX12_paired_4 : decode cX12_paired 4 = .ok (.bipush 60, 2) := by decide +kernel
theorem dX12_paired_6 : decode cX12_paired 6 = .ok (.iload_n 1, 1) := by decide +kernel
theorem dX12_paired_7 : decode cX12_paired 7 = .ok (.imul, 1) := by decide +kernel
theorem dX12_paired_8 : decode cX12_paired 8 = .ok (.iload_n 2, 1) := by decide +kernel
theorem dX12_paired_9 : decode cX12_paired 9 = .ok (.iadd, 1) := by decide +kernel
theorem dX12_paired_10 : decode cX12_paired 10 = .ok (.iaload, 1) := by decide +kernel
theorem dX12_paired_11 : decode cX12_paired 11 = .ok (.iconst (-1), 1) := by decide +kernel
theorem dX12_paired_12 : decode cX12_paired 12 = .ok (.if_icmp .ne 48, 3) := by decide +kernel
theorem dX12_paired_15 : decode cX12_paired 15 = .ok (.aload_n 0, 1) := by decide +kernel
theorem dX12_paired_16 : decode cX12_paired 16 = .ok (.getfield 95, 3) := by decide +kernel
theorem dX12_paired_19 : decode cX12_paired 19 = .ok (.bipush 60, 2) := by decide +kernel
theorem dX12_paired_21 : decode cX12_paired 21 = .ok (.iload_n 1, 1) := by decide +kernel
theorem dX12_paired_22 : decode cX12_paired 22 = .ok (.imul, 1) := by decide +kernel
theorem dX12_paired_23 : decode cX12_paired 23 = .ok (.iload_n 2, 1) := by decide +kernel
theorem dX12_paired_24 : decode cX12_paired 24 = .ok (.iadd, 1) := by decide +kernel
theorem dX12_paired_25 : decode cX12_paired 25 = .ok (.aload_n 0, 1) := by decide +kernel
theorem dX12_paired_26 : decode cX12_paired 26 = .ok (.getfield 234, 3) := by decide +kernel
theorem dX12_paired_29 : decode cX12_paired 29 = .ok (.iastore, 1) := by decide +kernel
theorem dX12_paired_30 : decode cX12_paired 30 = .ok (.aload_n 0, 1) := by decide +kernel
theorem dX12_paired_31 : decode cX12_paired 31 = .ok (.getfield 98, 3) := by decide +kernel
theorem dX12_paired_34 : decode cX12_paired 34 = .ok (.aload_n 0, 1) := by decide +kernel
theorem dX12_paired_35 : decode cX12_paired 35 = .ok (.getfield 234, 3) := by decide +kernel
theorem dX12_paired_38 : decode cX12_paired 38 = .ok (.iload_n 1, 1) := by decide +kernel
theorem dX12_paired_39 : decode cX12_paired 39 = .ok (.iastore, 1) := by decide +kernel
theorem dX12_paired_40 : decode cX12_paired 40 = .ok (.aload_n 0, 1) := by decide +kernel
theorem dX12_paired_41 : decode cX12_paired 41 = .ok (.getfield 101, 3) := by decide +kernel
theorem dX12_paired_44 : decode cX12_paired 44 = .ok (.aload_n 0, 1) := by decide +kernel
theorem dX12_paired_45 : decode cX12_paired 45 = .ok (.getfield 234, 3) := by decide +kernel
theorem dX12_paired_48 : decode cX12_paired 48 = .ok (.iload_n 2, 1) := by decide +kernel
theorem dX12_paired_49 : decode cX12_paired 49 = .ok (.iastore, 1) := by decide +kernel
theorem dX12_paired_50 : decode cX12_paired 50 = .ok (.aload_n 0, 1) := by decide +kernel
theorem dX12_paired_51 : decode cX12_paired 51 = .ok (.dup, 1) := by decide +kernel
theorem dX12_paired_52 : decode cX12_paired 52 = .ok (.getfield 234, 3) := by decide +kernel
theorem dX12_paired_55 : decode cX12_paired 55 = .ok (.iconst 1, 1) := by decide +kernel
theorem dX12_paired_56 : decode cX12_paired 56 = .ok (.iadd, 1) := by decide +kernel
theorem dX12_paired_57 : decode cX12_paired 57 = .ok (.putfield 234, 3) := by decide +kernel
theorem dX12_paired_60 : decode cX12_paired 60 = .ok (.aload_n 0, 1) := by decide +kernel
theorem dX12_paired_61 : decode cX12_paired 61 = .ok (.getfield 95, 3) := by decide +kernel
theorem dX12_paired_64 : decode cX12_paired 64 = .ok (.bipush 60, 2) := by decide +kernel
theorem dX12_paired_66 : decode cX12_paired 66 = .ok (.iload_n 1, 1) := by decide +kernel
theorem dX12_paired_67 : decode cX12_paired 67 = .ok (.imul, 1) := by decide +kernel
theorem dX12_paired_68 : decode cX12_paired 68 = .ok (.iload_n 2, 1) := by decide +kernel
theorem dX12_paired_69 : decode cX12_paired 69 = .ok (.iadd, 1) := by decide +kernel
theorem dX12_paired_70 : decode cX12_paired 70 = .ok (.iaload, 1) := by decide +kernel
theorem dX12_paired_71 : decode cX12_paired 71 = .ok (.ireturn, 1) := by decide +kernel
theorem dX12_noPairs_0 : decode cX12_noPairs 0 = .ok (.aload_n 0, 1) := by decide +kernel
theorem dX12_noPairs_1 : decode cX12_noPairs 1 = .ok (.iconst 0, 1) := by decide +kernel
theorem dX12_noPairs_2 : decode cX12_noPairs 2 = .ok (.putfield 234, 3) := by decide +kernel
theorem dX12_noPairs_5 : decode cX12_noPairs 5 = .ok (.iconst 0, 1) := by decide +kernel
theorem dX12_noPairs_6 : decode cX12_noPairs 6 = .ok (.istore_n 1, 1) := by decide +kernel
theorem dX12_noPairs_7 : decode cX12_noPairs 7 = .ok (.iload_n 1, 1) := by decide +kernel
theorem dX12_noPairs_8 : decode cX12_noPairs 8 = .ok (.sipush 3600, 3) := by decide +kernel
theorem dX12_noPairs_11 : decode cX12_noPairs 11 = .ok (.if_icmp .ge 16, 3) := by decide +kernel
theorem dX12_noPairs_14 : decode cX12_noPairs 14 = .ok (.aload_n 0, 1) := by decide +kernel
theorem dX12_noPairs_15 : decode cX12_noPairs 15 = .ok (.getfield 95, 3) := by decide +kernel
theorem dX12_noPairs_18 : decode cX12_noPairs 18 = .ok (.iload_n 1, 1) := by decide +kernel
theorem dX12_noPairs_19 : decode cX12_noPairs 19 = .ok (.iconst (-1), 1) := by decide +kernel
theorem dX12_noPairs_20 : decode cX12_noPairs 20 = .ok (.iastore, 1) := by decide +kernel
theorem dX12_noPairs_21 : decode cX12_noPairs 21 = .ok (.iinc 1 1, 3) := by decide +kernel
theorem dX12_noPairs_24 : decode cX12_noPairs 24 = .ok (.goto (-17), 3) := by decide +kernel
theorem dX12_noPairs_27 : decode cX12_noPairs 27 = .ok (.aload_n 0, 1) := by decide +kernel
theorem dX12_noPairs_28 : decode cX12_noPairs 28 = .ok (.iconst 0, 1) := by decide +kernel
theorem dX12_noPairs_29 : decode cX12_noPairs 29 = .ok (.iconst 0, 1) := by decide +kernel
theorem dX12_noPairs_30 : decode cX12_noPairs 30 = .ok (.invokevirtual 272, 3) := by decide +kernel
theorem dX12_noPairs_33 : decode cX12_noPairs 33 = .ok (.pop, 1) := by decide +kernel
theorem dX12_noPairs_34 : decode cX12_noPairs 34 = .ok (.return_, 1) := by decide +kernel
theorem dX12_pair_0 : decode cX12_pair 0 = .ok (.aload_n 0, 1) := by decide +kernel
theorem dX12_pair_1 : decode cX12_pair 1 = .ok (.iload_n 1, 1) := by decide +kernel
theorem dX12_pair_2 : decode cX12_pair 2 = .ok (.invokevirtual 275, 3) := by decide +kernel
theorem dX12_pair_5 : decode cX12_pair 5 = .ok (.ifCond .eq 20, 3) := by decide +kernel
theorem dX12_pair_8 : decode cX12_pair 8 = .ok (.aload_n 0, 1) := by decide +kernel
theorem dX12_pair_9 : decode cX12_pair 9 = .ok (.iload_n 2, 1) := by decide +kernel
theorem dX12_pair_10 : decode cX12_pair 10 = .ok (.invokevirtual 275, 3) := by decide +kernel
theorem dX12_pair_13 : decode cX12_pair 13 = .ok (.ifCond .eq 12, 3) := by decide +kernel
theorem dX12_pair_16 : decode cX12_pair 16 = .ok (.iload_n 3, 1) := by decide +kernel
theorem dX12_pair_17 : decode cX12_pair 17 = .ok (.iconst 0, 1) := by decide +kernel
theorem dX12_pair_18 : decode cX12_pair 18 = .ok (.iconst 2, 1) := by decide +kernel
theorem dX12_pair_19 : decode cX12_pair 19 = .ok (.invokestatic 218, 3) := by decide +kernel
theorem dX12_pair_22 : decode cX12_pair 22 = .ok (.ifCond .ne 9, 3) := by decide +kernel
theorem dX12_pair_25 : decode cX12_pair 25 = .ok (.aload_n 0, 1) := by decide +kernel
theorem dX12_pair_26 : decode cX12_pair 26 = .ok (.iconst 1, 1) := by decide +kernel
theorem dX12_pair_27 : decode cX12_pair 27 = .ok (.invokevirtual 253, 3) := by decide +kernel
theorem dX12_pair_30 : decode cX12_pair 30 = .ok (.ireturn, 1) := by decide +kernel
theorem dX12_pair_31 : decode cX12_pair 31 = .ok (.aload_n 0, 1) := by decide +kernel
theorem dX12_pair_32 : decode cX12_pair 32 = .ok (.getfield 215, 3) := by decide +kernel
theorem dX12_pair_35 : decode cX12_pair 35 = .ok (.bipush 10, 2) := by decide +kernel
theorem dX12_pair_37 : decode cX12_pair 37 = .ok (.if_icmp .ne 9, 3) := by decide +kernel
theorem dX12_pair_40 : decode cX12_pair 40 = .ok (.aload_n 0, 1) := by decide +kernel
theorem dX12_pair_41 : decode cX12_pair 41 = .ok (.iconst 2, 1) := by decide +kernel
theorem dX12_pair_42 : decode cX12_pair 42 = .ok (.invokevirtual 253, 3) := by decide +kernel
theorem dX12_pair_45 : decode cX12_pair 45 = .ok (.ireturn, 1) := by decide +kernel
theorem dX12_pair_46 : decode cX12_pair 46 = .ok (.aload_n 0, 1) := by decide +kernel
theorem dX12_pair_47 : decode cX12_pair 47 = .ok (.invokevirtual 279, 3) := by decide +kernel
theorem dX12_pair_50 : decode cX12_pair 50 = .ok (.aload_n 0, 1) := by decide +kernel
theorem dX12_pair_51 : decode cX12_pair 51 = .ok (.aload_n 0, 1) := by decide +kernel
theorem dX12_pair_52 : decode cX12_pair 52 = .ok (.getfield 7, 3) := by decide +kernel
theorem dX12_pair_55 : decode cX12_pair 55 = .ok (.putfield 226, 3) := by decide +kernel
theorem dX12_pair_58 : decode cX12_pair 58 = .ok (.iconst 0, 1) := by decide +kernel
theorem dX12_pair_59 : decode cX12_pair 59 = .ok (.istore 4, 2) := by decide +kernel
theorem dX12_pair_61 : decode cX12_pair 61 = .ok (.iload 4, 2) := by decide +kernel
theorem dX12_pair_63 : decode cX12_pair 63 = .ok (.aload_n 0, 1) := by decide +kernel
theorem dX12_pair_64 : decode cX12_pair 64 = .ok (.getfield 234, 3) := by decide +kernel
theorem dX12_pair_67 : decode cX12_pair 67 = .ok (.if_icmp .ge 166, 3) := by decide +kernel
theorem dX12_pair_70 : decode cX12_pair 70 = .ok (.aload_n 0, 1) := by decide +kernel
theorem dX12_pair_71 : decode cX12_pair 71 = .ok (.getfield 23, 3) := by decide +kernel
theorem dX12_pair_74 : decode cX12_pair 74 = .ok (.bipush 60, 2) := by decide +kernel
theorem dX12_pair_76 : decode cX12_pair 76 = .ok (.iload_n 1, 1) := by decide +kernel
theorem dX12_pair_77 : decode cX12_pair 77 = .ok (.imul, 1) := by decide +kernel
theorem dX12_pair_78 : decode cX12_pair 78 = .ok (.aload_n 0, 1) := by decide +kernel
theorem dX12_pair_79 : decode cX12_pair 79 = .ok (.getfield 98, 3) := by decide +kernel
theorem dX12_pair_82 : decode cX12_pair 82 = .ok (.iload 4, 2) := by decide +kernel
theorem dX12_pair_84 : decode cX12_pair 84 = .ok (.iaload, 1) := by decide +kernel
theorem dX12_pair_85 : decode cX12_pair 85 = .ok (.iadd, 1) := by decide +kernel
theorem dX12_pair_86 : decode cX12_pair 86 = .ok (.iaload, 1) := by decide +kernel
theorem dX12_pair_87 : decode cX12_pair 87 = .ok (.istore 5, 2) := by decide +kernel
theorem dX12_pair_89 : decode cX12_pair 89 = .ok (.aload_n 0, 1) := by decide +kernel
theorem dX12_pair_90 : decode cX12_pair 90 = .ok (.getfield 23, 3) := by decide +kernel
theorem dX12_pair_93 : decode cX12_pair 93 = .ok (.bipush 60, 2) := by decide +kernel
theorem dX12_pair_95 : decode cX12_pair 95 = .ok (.iload_n 2, 1) := by decide +kernel
theorem dX12_pair_96 : decode cX12_pair 96 = .ok (.imul, 1) := by decide +kernel
theorem dX12_pair_97 : decode cX12_pair 97 = .ok (.aload_n 0, 1) := by decide +kernel
theorem dX12_pair_98 : decode cX12_pair 98 = .ok (.getfield 101, 3) := by decide +kernel
theorem dX12_pair_101 : decode cX12_pair 101 = .ok (.iload 4, 2) := by decide +kernel
theorem dX12_pair_103 : decode cX12_pair 103 = .ok (.iaload, 1) := by decide +kernel
theorem dX12_pair_104 : decode cX12_pair 104 = .ok (.iadd, 1) := by decide +kernel
theorem dX12_pair_105 : decode cX12_pair 105 = .ok (.iaload, 1) := by decide +kernel
theorem dX12_pair_106 : decode cX12_pair 106 = .ok (.istore 6, 2) := by decide +kernel
theorem dX12_pair_108 : decode cX12_pair 108 = .ok (.aload_n 0, 1) := by decide +kernel
theorem dX12_pair_109 : decode cX12_pair 109 = .ok (.getfield 76, 3) := by decide +kernel
theorem dX12_pair_112 : decode cX12_pair 112 = .ok (.iload 4, 2) := by decide +kernel
theorem dX12_pair_114 : decode cX12_pair 114 = .ok (.iload_n 3, 1) := by decide +kernel
theorem dX12_pair_115 : decode cX12_pair 115 = .ok (.ifCond .ne 18, 3) := by decide +kernel
theorem dX12_pair_118 : decode cX12_pair 118 = .ok (.iload 5, 2) := by decide +kernel
theorem dX12_pair_120 : decode cX12_pair 120 = .ok (.iload 6, 2) := by decide +kernel
theorem dX12_pair_122 : decode cX12_pair 122 = .ok (.if_icmp .ne 7, 3) := by decide +kernel
theorem dX12_pair_125 : decode cX12_pair 125 = .ok (.iconst 1, 1) := by decide +kernel
theorem dX12_pair_126 : decode cX12_pair 126 = .ok (.goto 37, 3) := by decide +kernel
theorem dX12_pair_129 : decode cX12_pair 129 = .ok (.iconst 0, 1) := by decide +kernel
theorem dX12_pair_130 : decode cX12_pair 130 = .ok (.goto 33, 3) := by decide +kernel
theorem dX12_pair_133 : decode cX12_pair 133 = .ok (.iload_n 3, 1) := by decide +kernel
theorem dX12_pair_134 : decode cX12_pair 134 = .ok (.iconst 1, 1) := by decide +kernel
theorem dX12_pair_135 : decode cX12_pair 135 = .ok (.if_icmp .ne 14, 3) := by decide +kernel
theorem dX12_pair_138 : decode cX12_pair 138 = .ok (.iload 5, 2) := by decide +kernel
theorem dX12_pair_140 : decode cX12_pair 140 = .ok (.iload 6, 2) := by decide +kernel
theorem dX12_pair_142 : decode cX12_pair 142 = .ok (.iadd, 1) := by decide +kernel
theorem dX12_pair_143 : decode cX12_pair 143 = .ok (.bipush 8, 2) := by decide +kernel
theorem dX12_pair_145 : decode cX12_pair 145 = .ok (.irem, 1) := by decide +kernel
theorem dX12_pair_146 : decode cX12_pair 146 = .ok (.goto 17, 3) := by decide +kernel
theorem dX12_pair_149 : decode cX12_pair 149 = .ok (.iload 5, 2) := by decide +kernel
theorem dX12_pair_151 : decode cX12_pair 151 = .ok (.iload 6, 2) := by decide +kernel
theorem dX12_pair_153 : decode cX12_pair 153 = .ok (.if_icmp .le 8, 3) := by decide +kernel
theorem dX12_pair_156 : decode cX12_pair 156 = .ok (.iload 5, 2) := by decide +kernel
theorem dX12_pair_158 : decode cX12_pair 158 = .ok (.goto 5, 3) := by decide +kernel
theorem dX12_pair_161 : decode cX12_pair 161 = .ok (.iload 6, 2) := by decide +kernel
theorem dX12_pair_163 : decode cX12_pair 163 = .ok (.iastore, 1) := by decide +kernel
theorem dX12_pair_164 : decode cX12_pair 164 = .ok (.iconst 0, 1) := by decide +kernel
theorem dX12_pair_165 : decode cX12_pair 165 = .ok (.istore 7, 2) := by decide +kernel
theorem dX12_pair_167 : decode cX12_pair 167 = .ok (.iload 7, 2) := by decide +kernel
theorem dX12_pair_169 : decode cX12_pair 169 = .ok (.aload_n 0, 1) := by decide +kernel
theorem dX12_pair_170 : decode cX12_pair 170 = .ok (.getfield 7, 3) := by decide +kernel
theorem dX12_pair_173 : decode cX12_pair 173 = .ok (.if_icmp .ge 54, 3) := by decide +kernel
theorem dX12_pair_176 : decode cX12_pair 176 = .ok (.aload_n 0, 1) := by decide +kernel
theorem dX12_pair_177 : decode cX12_pair 177 = .ok (.getfield 73, 3) := by decide +kernel
theorem dX12_pair_180 : decode cX12_pair 180 = .ok (.bipush 27, 2) := by decide +kernel
theorem dX12_pair_182 : decode cX12_pair 182 = .ok (.iload 4, 2) := by decide +kernel
theorem dX12_pair_184 : decode cX12_pair 184 = .ok (.imul, 1) := by decide +kernel
theorem dX12_pair_185 : decode cX12_pair 185 = .ok (.iload 7, 2) := by decide +kernel
theorem dX12_pair_187 : decode cX12_pair 187 = .ok (.iadd, 1) := by decide +kernel
theorem dX12_pair_188 : decode cX12_pair 188 = .ok (.aload_n 0, 1) := by decide +kernel
theorem dX12_pair_189 : decode cX12_pair 189 = .ok (.aload_n 0, 1) := by decide +kernel
theorem dX12_pair_190 : decode cX12_pair 190 = .ok (.iload_n 1, 1) := by decide +kernel
theorem dX12_pair_191 : decode cX12_pair 191 = .ok (.aload_n 0, 1) := by decide +kernel
theorem dX12_pair_192 : decode cX12_pair 192 = .ok (.getfield 98, 3) := by decide +kernel
theorem dX12_pair_195 : decode cX12_pair 195 = .ok (.iload 4, 2) := by decide +kernel
theorem dX12_pair_197 : decode cX12_pair 197 = .ok (.iaload, 1) := by decide +kernel
theorem dX12_pair_198 : decode cX12_pair 198 = .ok (.iload 7, 2) := by decide +kernel
theorem dX12_pair_200 : decode cX12_pair 200 = .ok (.invokevirtual 282, 3) := by decide +kernel
theorem dX12_pair_203 : decode cX12_pair 203 = .ok (.aload_n 0, 1) := by decide +kernel
theorem dX12_pair_204 : decode cX12_pair 204 = .ok (.iload_n 2, 1) := by decide +kernel
theorem dX12_pair_205 : decode cX12_pair 205 = .ok (.aload_n 0, 1) := by decide +kernel
theorem dX12_pair_206 : decode cX12_pair 206 = .ok (.getfield 101, 3) := by decide +kernel
theorem dX12_pair_209 : decode cX12_pair 209 = .ok (.iload 4, 2) := by decide +kernel
theorem dX12_pair_211 : decode cX12_pair 211 = .ok (.iaload, 1) := by decide +kernel
theorem dX12_pair_212 : decode cX12_pair 212 = .ok (.iload 7, 2) := by decide +kernel
theorem dX12_pair_214 : decode cX12_pair 214 = .ok (.invokevirtual 282, 3) := by decide +kernel
theorem dX12_pair_217 : decode cX12_pair 217 = .ok (.invokevirtual 272, 3) := by decide +kernel
theorem dX12_pair_220 : decode cX12_pair 220 = .ok (.iastore, 1) := by decide +kernel
theorem dX12_pair_221 : decode cX12_pair 221 = .ok (.iinc 7 1, 3) := by decide +kernel
theorem dX12_pair_224 : decode cX12_pair 224 = .ok (.goto (-57), 3) := by decide +kernel
theorem dX12_pair_227 : decode cX12_pair 227 = .ok (.iinc 4 1, 3) := by decide +kernel
theorem dX12_pair_230 : decode cX12_pair 230 = .ok (.goto (-169), 3) := by decide +kernel
theorem dX12_pair_233 : decode cX12_pair 233 = .ok (.aload_n 0, 1) := by decide +kernel
theorem dX12_pair_234 : decode cX12_pair 234 = .ok (.invokevirtual 266, 3) := by decide +kernel
theorem dX12_pair_237 : decode cX12_pair 237 = .ok (.aload_n 0, 1) := by decide +kernel
theorem dX12_pair_238 : decode cX12_pair 238 = .ok (.getfield 243, 3) := by decide +kernel
theorem dX12_pair_241 : decode cX12_pair 241 = .ok (.bipush 60, 2) := by decide +kernel
theorem dX12_pair_243 : decode cX12_pair 243 = .ok (.if_icmp .le 11, 3) := by decide +kernel
theorem dX12_pair_246 : decode cX12_pair 246 = .ok (.aload_n 0, 1) := by decide +kernel
theorem dX12_pair_247 : decode cX12_pair 247 = .ok (.iconst 3, 1) := by decide +kernel
theorem dX12_pair_248 : decode cX12_pair 248 = .ok (.invokevirtual 253, 3) := by decide +kernel
theorem dX12_pair_251 : decode cX12_pair 251 = .ok (.goto 8, 3) := by decide +kernel
theorem dX12_pair_254 : decode cX12_pair 254 = .ok (.aload_n 0, 1) := by decide +kernel
theorem dX12_pair_255 : decode cX12_pair 255 = .ok (.iconst 3, 1) := by decide +kernel
theorem dX12_pair_256 : decode cX12_pair 256 = .ok (.invokevirtual 269, 3) := by decide +kernel
theorem dX12_pair_259 : decode cX12_pair 259 = .ok (.ireturn, 1) := by decide +kernel
theorem dX12_canAsk_0 : decode cX12_canAsk 0 = .ok (.iload_n 1, 1) := by decide +kernel
theorem dX12_canAsk_1 : decode cX12_canAsk 1 = .ok (.iconst 0, 1) := by decide +kernel
theorem dX12_canAsk_2 : decode cX12_canAsk 2 = .ok (.aload_n 0, 1) := by decide +kernel
theorem dX12_canAsk_3 : decode cX12_canAsk 3 = .ok (.getfield 256, 3) := by decide +kernel
theorem dX12_canAsk_6 : decode cX12_canAsk 6 = .ok (.iconst 1, 1) := by decide +kernel
theorem dX12_canAsk_7 : decode cX12_canAsk 7 = .ok (.isub, 1) := by decide +kernel
theorem dX12_canAsk_8 : decode cX12_canAsk 8 = .ok (.invokestatic 218, 3) := by decide +kernel
theorem dX12_canAsk_11 : decode cX12_canAsk 11 = .ok (.ifCond .eq 26, 3) := by decide +kernel
theorem dX12_canAsk_14 : decode cX12_canAsk 14 = .ok (.aload_n 0, 1) := by decide +kernel
theorem dX12_canAsk_15 : decode cX12_canAsk 15 = .ok (.getfield 29, 3) := by decide +kernel
theorem dX12_canAsk_18 : decode cX12_canAsk 18 = .ok (.iload_n 1, 1) := by decide +kernel
theorem dX12_canAsk_19 : decode cX12_canAsk 19 = .ok (.iaload, 1) := by decide +kernel
theorem dX12_canAsk_20 : decode cX12_canAsk 20 = .ok (.ifCond .ne 17, 3) := by decide +kernel
theorem dX12_canAsk_23 : decode cX12_canAsk 23 = .ok (.aload_n 0, 1) := by decide +kernel
theorem dX12_canAsk_24 : decode cX12_canAsk 24 = .ok (.getfield 35, 3) := by decide +kernel
theorem dX12_canAsk_27 : decode cX12_canAsk 27 = .ok (.iload_n 1, 1) := by decide +kernel
theorem dX12_canAsk_28 : decode cX12_canAsk 28 = .ok (.iaload, 1) := by decide +kernel
theorem dX12_canAsk_29 : decode cX12_canAsk 29 = .ok (.iconst (-1), 1) := by decide +kernel
theorem dX12_canAsk_30 : decode cX12_canAsk 30 = .ok (.if_icmp .ne 7, 3) := by decide +kernel
theorem dX12_canAsk_33 : decode cX12_canAsk 33 = .ok (.iconst 1, 1) := by decide +kernel
theorem dX12_canAsk_34 : decode cX12_canAsk 34 = .ok (.goto 4, 3) := by decide +kernel
theorem dX12_canAsk_37 : decode cX12_canAsk 37 = .ok (.iconst 0, 1) := by decide +kernel
theorem dX12_canAsk_38 : decode cX12_canAsk 38 = .ok (.ireturn, 1) := by decide +kernel
theorem dX12_sought_0 : decode cX12_sought 0 = .ok (.iload_n 1, 1) := by decide +kernel
theorem dX12_sought_1 : decode cX12_sought 1 = .ok (.iconst 0, 1) := by decide +kernel
theorem dX12_sought_2 : decode cX12_sought 2 = .ok (.aload_n 0, 1) := by decide +kernel
theorem dX12_sought_3 : decode cX12_sought 3 = .ok (.getfield 256, 3) := by decide +kernel
theorem dX12_sought_6 : decode cX12_sought 6 = .ok (.iconst 1, 1) := by decide +kernel
theorem dX12_sought_7 : decode cX12_sought 7 = .ok (.isub, 1) := by decide +kernel
theorem dX12_sought_8 : decode cX12_sought 8 = .ok (.invokestatic 218, 3) := by decide +kernel
theorem dX12_sought_11 : decode cX12_sought 11 = .ok (.ifCond .ne 9, 3) := by decide +kernel
theorem dX12_sought_14 : decode cX12_sought 14 = .ok (.aload_n 0, 1) := by decide +kernel
theorem dX12_sought_15 : decode cX12_sought 15 = .ok (.iconst 1, 1) := by decide +kernel
theorem dX12_sought_16 : decode cX12_sought 16 = .ok (.invokevirtual 253, 3) := by decide +kernel
theorem dX12_sought_19 : decode cX12_sought 19 = .ok (.ireturn, 1) := by decide +kernel
theorem dX12_sought_20 : decode cX12_sought 20 = .ok (.aload_n 0, 1) := by decide +kernel
theorem dX12_sought_21 : decode cX12_sought 21 = .ok (.getfield 215, 3) := by decide +kernel
theorem dX12_sought_24 : decode cX12_sought 24 = .ok (.bipush 10, 2) := by decide +kernel
theorem dX12_sought_26 : decode cX12_sought 26 = .ok (.if_icmp .ne 9, 3) := by decide +kernel
theorem dX12_sought_29 : decode cX12_sought 29 = .ok (.aload_n 0, 1) := by decide +kernel
theorem dX12_sought_30 : decode cX12_sought 30 = .ok (.iconst 2, 1) := by decide +kernel
theorem dX12_sought_31 : decode cX12_sought 31 = .ok (.invokevirtual 253, 3) := by decide +kernel
theorem dX12_sought_34 : decode cX12_sought 34 = .ok (.ireturn, 1) := by decide +kernel
theorem dX12_sought_35 : decode cX12_sought 35 = .ok (.aload_n 0, 1) := by decide +kernel
theorem dX12_sought_36 : decode cX12_sought 36 = .ok (.iload_n 1, 1) := by decide +kernel
theorem dX12_sought_37 : decode cX12_sought 37 = .ok (.invokevirtual 286, 3) := by decide +kernel
theorem dX12_sought_40 : decode cX12_sought 40 = .ok (.ifCond .eq 16, 3) := by decide +kernel
theorem dX12_sought_43 : decode cX12_sought 43 = .ok (.aload_n 0, 1) := by decide +kernel
theorem dX12_sought_44 : decode cX12_sought 44 = .ok (.getfield 38, 3) := by decide +kernel
theorem dX12_sought_47 : decode cX12_sought 47 = .ok (.iload_n 1, 1) := by decide +kernel
theorem dX12_sought_48 : decode cX12_sought 48 = .ok (.iaload, 1) := by decide +kernel
theorem dX12_sought_49 : decode cX12_sought 49 = .ok (.invokestatic 222, 3) := by decide +kernel
theorem dX12_sought_52 : decode cX12_sought 52 = .ok (.iconst 1, 1) := by decide +kernel
theorem dX12_sought_53 : decode cX12_sought 53 = .ok (.if_icmp .eq 9, 3) := by decide +kernel
theorem dX12_sought_56 : decode cX12_sought 56 = .ok (.aload_n 0, 1) := by decide +kernel
theorem dX12_sought_57 : decode cX12_sought 57 = .ok (.iconst 3, 1) := by decide +kernel
theorem dX12_sought_58 : decode cX12_sought 58 = .ok (.invokevirtual 253, 3) := by decide +kernel
theorem dX12_sought_61 : decode cX12_sought 61 = .ok (.ireturn, 1) := by decide +kernel
theorem dX12_sought_62 : decode cX12_sought 62 = .ok (.aload_n 0, 1) := by decide +kernel
theorem dX12_sought_63 : decode cX12_sought 63 = .ok (.aload_n 0, 1) := by decide +kernel
theorem dX12_sought_64 : decode cX12_sought 64 = .ok (.getfield 47, 3) := by decide +kernel
theorem dX12_sought_67 : decode cX12_sought 67 = .ok (.iload_n 1, 1) := by decide +kernel
theorem dX12_sought_68 : decode cX12_sought 68 = .ok (.iaload, 1) := by decide +kernel
theorem dX12_sought_69 : decode cX12_sought 69 = .ok (.putfield 234, 3) := by decide +kernel
theorem dX12_sought_72 : decode cX12_sought 72 = .ok (.aload_n 0, 1) := by decide +kernel
theorem dX12_sought_73 : decode cX12_sought 73 = .ok (.aload_n 0, 1) := by decide +kernel
theorem dX12_sought_74 : decode cX12_sought 74 = .ok (.getfield 7, 3) := by decide +kernel
theorem dX12_sought_77 : decode cX12_sought 77 = .ok (.putfield 226, 3) := by decide +kernel
theorem dX12_sought_80 : decode cX12_sought 80 = .ok (.iconst 0, 1) := by decide +kernel
theorem dX12_sought_81 : decode cX12_sought 81 = .ok (.istore_n 2, 1) := by decide +kernel
theorem dX12_sought_82 : decode cX12_sought 82 = .ok (.iload_n 2, 1) := by decide +kernel
theorem dX12_sought_83 : decode cX12_sought 83 = .ok (.aload_n 0, 1) := by decide +kernel
theorem dX12_sought_84 : decode cX12_sought 84 = .ok (.getfield 234, 3) := by decide +kernel
theorem dX12_sought_87 : decode cX12_sought 87 = .ok (.if_icmp .ge 77, 3) := by decide +kernel
theorem dX12_sought_90 : decode cX12_sought 90 = .ok (.aload_n 0, 1) := by decide +kernel
theorem dX12_sought_91 : decode cX12_sought 91 = .ok (.getfield 76, 3) := by decide +kernel
theorem dX12_sought_94 : decode cX12_sought 94 = .ok (.iload_n 2, 1) := by decide +kernel
theorem dX12_sought_95 : decode cX12_sought 95 = .ok (.aload_n 0, 1) := by decide +kernel
theorem dX12_sought_96 : decode cX12_sought 96 = .ok (.getfield 53, 3) := by decide +kernel
theorem dX12_sought_99 : decode cX12_sought 99 = .ok (.bipush 40, 2) := by decide +kernel
theorem dX12_sought_101 : decode cX12_sought 101 = .ok (.iload_n 1, 1) := by decide +kernel
theorem dX12_sought_102 : decode cX12_sought 102 = .ok (.imul, 1) := by decide +kernel
theorem dX12_sought_103 : decode cX12_sought 103 = .ok (.iload_n 2, 1) := by decide +kernel
theorem dX12_sought_104 : decode cX12_sought 104 = .ok (.iadd, 1) := by decide +kernel
theorem dX12_sought_105 : decode cX12_sought 105 = .ok (.baload, 1) := by decide +kernel
theorem dX12_sought_106 : decode cX12_sought 106 = .ok (.ifCond .eq 7, 3) := by decide +kernel
theorem dX12_sought_109 : decode cX12_sought 109 = .ok (.iconst 1, 1) := by decide +kernel
theorem dX12_sought_110 : decode cX12_sought 110 = .ok (.goto 4, 3) := by decide +kernel
theorem dX12_sought_113 : decode cX12_sought 113 = .ok (.iconst 0, 1) := by decide +kernel
theorem dX12_sought_114 : decode cX12_sought 114 = .ok (.iastore, 1) := by decide +kernel
theorem dX12_sought_115 : decode cX12_sought 115 = .ok (.iconst 0, 1) := by decide +kernel
theorem dX12_sought_116 : decode cX12_sought 116 = .ok (.istore_n 3, 1) := by decide +kernel
theorem dX12_sought_117 : decode cX12_sought 117 = .ok (.iload_n 3, 1) := by decide +kernel
theorem dX12_sought_118 : decode cX12_sought 118 = .ok (.aload_n 0, 1) := by decide +kernel
theorem dX12_sought_119 : decode cX12_sought 119 = .ok (.getfield 7, 3) := by decide +kernel
theorem dX12_sought_122 : decode cX12_sought 122 = .ok (.if_icmp .ge 36, 3) := by decide +kernel
theorem dX12_sought_125 : decode cX12_sought 125 = .ok (.aload_n 0, 1) := by decide +kernel
theorem dX12_sought_126 : decode cX12_sought 126 = .ok (.getfield 73, 3) := by decide +kernel
theorem dX12_sought_129 : decode cX12_sought 129 = .ok (.bipush 27, 2) := by decide +kernel
theorem dX12_sought_131 : decode cX12_sought 131 = .ok (.iload_n 2, 1) := by decide +kernel
theorem dX12_sought_132 : decode cX12_sought 132 = .ok (.imul, 1) := by decide +kernel
theorem dX12_sought_133 : decode cX12_sought 133 = .ok (.iload_n 3, 1) := by decide +kernel
theorem dX12_sought_134 : decode cX12_sought 134 = .ok (.iadd, 1) := by decide +kernel
theorem dX12_sought_135 : decode cX12_sought 135 = .ok (.aload_n 0, 1) := by decide +kernel
theorem dX12_sought_136 : decode cX12_sought 136 = .ok (.getfield 50, 3) := by decide +kernel
theorem dX12_sought_139 : decode cX12_sought 139 = .ok (.bipush 27, 2) := by decide +kernel
theorem dX12_sought_141 : decode cX12_sought 141 = .ok (.bipush 40, 2) := by decide +kernel
theorem dX12_sought_143 : decode cX12_sought 143 = .ok (.iload_n 1, 1) := by decide +kernel
theorem dX12_sought_144 : decode cX12_sought 144 = .ok (.imul, 1) := by decide +kernel
theorem dX12_sought_145 : decode cX12_sought 145 = .ok (.iload_n 2, 1) := by decide +kernel
theorem dX12_sought_146 : decode cX12_sought 146 = .ok (.iadd, 1) := by decide +kernel
theorem dX12_sought_147 : decode cX12_sought 147 = .ok (.imul, 1) := by decide +kernel
theorem dX12_sought_148 : decode cX12_sought 148 = .ok (.iload_n 3, 1) := by decide +kernel
theorem dX12_sought_149 : decode cX12_sought 149 = .ok (.iadd, 1) := by decide +kernel
theorem dX12_sought_150 : decode cX12_sought 150 = .ok (.iaload, 1) := by decide +kernel
theorem dX12_sought_151 : decode cX12_sought 151 = .ok (.iastore, 1) := by decide +kernel
theorem dX12_sought_152 : decode cX12_sought 152 = .ok (.iinc 3 1, 3) := by decide +kernel
theorem dX12_sought_155 : decode cX12_sought 155 = .ok (.goto (-38), 3) := by decide +kernel
theorem dX12_sought_158 : decode cX12_sought 158 = .ok (.iinc 2 1, 3) := by decide +kernel
theorem dX12_sought_161 : decode cX12_sought 161 = .ok (.goto (-79), 3) := by decide +kernel
theorem dX12_sought_164 : decode cX12_sought 164 = .ok (.aload_n 0, 1) := by decide +kernel
theorem dX12_sought_165 : decode cX12_sought 165 = .ok (.invokevirtual 266, 3) := by decide +kernel
theorem dX12_sought_168 : decode cX12_sought 168 = .ok (.aload_n 0, 1) := by decide +kernel
theorem dX12_sought_169 : decode cX12_sought 169 = .ok (.getfield 26, 3) := by decide +kernel
theorem dX12_sought_172 : decode cX12_sought 172 = .ok (.aload_n 0, 1) := by decide +kernel
theorem dX12_sought_173 : decode cX12_sought 173 = .ok (.getfield 215, 3) := by decide +kernel
theorem dX12_sought_176 : decode cX12_sought 176 = .ok (.iload_n 1, 1) := by decide +kernel
theorem dX12_sought_177 : decode cX12_sought 177 = .ok (.iastore, 1) := by decide +kernel
theorem dX12_sought_178 : decode cX12_sought 178 = .ok (.aload_n 0, 1) := by decide +kernel
theorem dX12_sought_179 : decode cX12_sought 179 = .ok (.iconst 4, 1) := by decide +kernel
theorem dX12_sought_180 : decode cX12_sought 180 = .ok (.invokevirtual 269, 3) := by decide +kernel
theorem dX12_sought_183 : decode cX12_sought 183 = .ok (.ireturn, 1) := by decide +kernel
theorem dX12_feed_0 : decode cX12_feed 0 = .ok (.iload_n 1, 1) := by decide +kernel
theorem dX12_feed_1 : decode cX12_feed 1 = .ok (.iconst 1, 1) := by decide +kernel
theorem dX12_feed_2 : decode cX12_feed 2 = .ok (.bipush 8, 2) := by decide +kernel
theorem dX12_feed_4 : decode cX12_feed 4 = .ok (.invokestatic 218, 3) := by decide +kernel
theorem dX12_feed_7 : decode cX12_feed 7 = .ok (.ifCond .ne 9, 3) := by decide +kernel
theorem dX12_feed_10 : decode cX12_feed 10 = .ok (.aload_n 0, 1) := by decide +kernel
theorem dX12_feed_11 : decode cX12_feed 11 = .ok (.iconst 1, 1) := by decide +kernel
theorem dX12_feed_12 : decode cX12_feed 12 = .ok (.invokevirtual 253, 3) := by decide +kernel
theorem dX12_feed_15 : decode cX12_feed 15 = .ok (.ireturn, 1) := by decide +kernel
theorem dX12_feed_16 : decode cX12_feed 16 = .ok (.aload_n 0, 1) := by decide +kernel
theorem dX12_feed_17 : decode cX12_feed 17 = .ok (.getfield 289, 3) := by decide +kernel
theorem dX12_feed_20 : decode cX12_feed 20 = .ok (.iload_n 1, 1) := by decide +kernel
theorem dX12_feed_21 : decode cX12_feed 21 = .ok (.iadd, 1) := by decide +kernel
theorem dX12_feed_22 : decode cX12_feed 22 = .ok (.bipush 120, 2) := by decide +kernel
theorem dX12_feed_24 : decode cX12_feed 24 = .ok (.if_icmp .le 9, 3) := by decide +kernel
theorem dX12_feed_27 : decode cX12_feed 27 = .ok (.aload_n 0, 1) := by decide +kernel
theorem dX12_feed_28 : decode cX12_feed 28 = .ok (.iconst 2, 1) := by decide +kernel
theorem dX12_feed_29 : decode cX12_feed 29 = .ok (.invokevirtual 253, 3) := by decide +kernel
theorem dX12_feed_32 : decode cX12_feed 32 = .ok (.ireturn, 1) := by decide +kernel
theorem dX12_feed_33 : decode cX12_feed 33 = .ok (.iconst 0, 1) := by decide +kernel
theorem dX12_feed_34 : decode cX12_feed 34 = .ok (.istore 4, 2) := by decide +kernel
theorem dX12_feed_36 : decode cX12_feed 36 = .ok (.iload 4, 2) := by decide +kernel
theorem dX12_feed_38 : decode cX12_feed 38 = .ok (.iload_n 1, 1) := by decide +kernel
theorem dX12_feed_39 : decode cX12_feed 39 = .ok (.if_icmp .ge 40, 3) := by decide +kernel
theorem dX12_feed_42 : decode cX12_feed 42 = .ok (.aload_n 0, 1) := by decide +kernel
theorem dX12_feed_43 : decode cX12_feed 43 = .ok (.getfield 57, 3) := by decide +kernel
theorem dX12_feed_46 : decode cX12_feed 46 = .ok (.aload_n 0, 1) := by decide +kernel
theorem dX12_feed_47 : decode cX12_feed 47 = .ok (.getfield 289, 3) := by decide +kernel
theorem dX12_feed_50 : decode cX12_feed 50 = .ok (.lload_n 2, 1) := by decide +kernel
theorem dX12_feed_51 : decode cX12_feed 51 = .ok (.bipush 8, 2) := by decide +kernel
theorem dX12_feed_53 : decode cX12_feed 53 = .ok (.iload 4, 2) := by decide +kernel
theorem dX12_feed_55 : decode cX12_feed 55 = .ok (.imul, 1) := by decide +kernel
theorem dX12_feed_56 : decode cX12_feed 56 = .ok (.lshr, 1) := by decide +kernel
theorem dX12_feed_57 : decode cX12_feed 57 = .ok (.ldc2_w 292, 3) := by decide +kernel
theorem dX12_feed_60 : decode cX12_feed 60 = .ok (.land, 1) := by decide +kernel
theorem dX12_feed_61 : decode cX12_feed 61 = .ok (.l2i, 1) := by decide +kernel
theorem dX12_feed_62 : decode cX12_feed 62 = .ok (.iastore, 1) := by decide +kernel
theorem dX12_feed_63 : decode cX12_feed 63 = .ok (.aload_n 0, 1) := by decide +kernel
theorem dX12_feed_64 : decode cX12_feed 64 = .ok (.dup, 1) := by decide +kernel
theorem dX12_feed_65 : decode cX12_feed 65 = .ok (.getfield 289, 3) := by decide +kernel
theorem dX12_feed_68 : decode cX12_feed 68 = .ok (.iconst 1, 1) := by decide +kernel
theorem dX12_feed_69 : decode cX12_feed 69 = .ok (.iadd, 1) := by decide +kernel
theorem dX12_feed_70 : decode cX12_feed 70 = .ok (.putfield 289, 3) := by decide +kernel
theorem dX12_feed_73 : decode cX12_feed 73 = .ok (.iinc 4 1, 3) := by decide +kernel
theorem dX12_feed_76 : decode cX12_feed 76 = .ok (.goto (-40), 3) := by decide +kernel
theorem dX12_feed_79 : decode cX12_feed 79 = .ok (.aload_n 0, 1) := by decide +kernel
theorem dX12_feed_80 : decode cX12_feed 80 = .ok (.aload_n 0, 1) := by decide +kernel
theorem dX12_feed_81 : decode cX12_feed 81 = .ok (.getfield 289, 3) := by decide +kernel
theorem dX12_feed_84 : decode cX12_feed 84 = .ok (.invokevirtual 250, 3) := by decide +kernel
theorem dX12_feed_87 : decode cX12_feed 87 = .ok (.ireturn, 1) := by decide +kernel
abbrev LX12_init_59 (G : GG) (d rc rs : Nat) (p0 : Nat) (M : Mem) (Q : Option Value → Mem → Prop) : Prop := Wk G (d + 1) rc rs mX12_init 59 [some (.ref p0), none] [] M Q
abbrev LX12_init_125 (G : GG) (d rc rs : Nat) (p0 : Nat) (M : Mem) (Q : Option Value → Mem → Prop) : Prop := Wk G (d + 1) rc rs mX12_init 125 [some (.ref p0), none] [] M Q
abbrev LX12_init_192 (G : GG) (d rc rs : Nat) (p0 : Nat) (M : Mem) (Q : Option Value → Mem → Prop) : Prop := Wk G (d + 1) rc rs mX12_init 192 [some (.ref p0), none] [] M Q
abbrev LX12_init_263 (G : GG) (d rc rs : Nat) (p0 : Nat) (M : Mem) (Q : Option Value → Mem → Prop) : Prop := Wk G (d + 1) rc rs mX12_init 263 [some (.ref p0), none] [] M Q
abbrev LX12_init_335 (G : GG) (d rc rs : Nat) (p0 : Nat) (M : Mem) (Q : Option Value → Mem → Prop) : Prop := Wk G (d + 1) rc rs mX12_init 335 [some (.ref p0), none] [] M Q
abbrev LX12_init_407 (G : GG) (d rc rs : Nat) (p0 : Nat) (M : Mem) (Q : Option Value → Mem → Prop) : Prop := Wk G (d + 1) rc rs mX12_init 407 [some (.ref p0), none] [] M Q
abbrev LX12_init_476 (G : GG) (d rc rs : Nat) (p0 : Nat) (M : Mem) (Q : Option Value → Mem → Prop) : Prop := Wk G (d + 1) rc rs mX12_init 476 [some (.ref p0), none] [] M Q
abbrev LX12_init_541 (G : GG) (d rc rs : Nat) (p0 : Nat) (M : Mem) (Q : Option Value → Mem → Prop) : Prop := Wk G (d + 1) rc rs mX12_init 541 [some (.ref p0), none] [] M Q
abbrev LX12_init_559 (G : GG) (d rc rs : Nat) (p0 : Nat) (x1 : Int32) (M : Mem) (Q : Option Value → Mem → Prop) : Prop := Wk G (d + 1) rc rs mX12_init 559 [some (.ref p0), some (.int x1)] [] M Q
theorem eX12_init {G : GG} {d rc rs : Nat} (o : Nat)  {M : Mem} {Q : Option Value → Mem → Prop} (h : (x_h M o).1 = 28 ∧ (∀ M2, M2 = x_si M o 0 2 → 1 ≤ rc ∧ 10 ≤ rs ∧ (∀ n3, n3 = g_b G + x_n M2 → ∀ M4, M4 = x_new M2 n3 1 10 → (x_h M4 o).1 = 28 ∧ (∀ M9, M9 = x_sr M4 o 2 (some n3) → 1 ≤ (rc - 1) ∧ 10 ≤ (rs - 10) ∧ (∀ n10, n10 = g_b G + x_n M9 → ∀ M11, M11 = x_new M9 n10 1 10 → (x_h M11 o).1 = 28 ∧ (∀ M16, M16 = x_sr M11 o 3 (some n10) → 1 ≤ ((rc - 1) - 1) ∧ 1800 ≤ ((rs - 10) - 10) ∧ (∀ n17, n17 = g_b G + x_n M16 → ∀ M18, M18 = x_new M16 n17 1 1800 → (x_h M18 o).1 = 28 ∧ (∀ M23, M23 = x_sr M18 o 4 (some n17) → 1 ≤ (((rc - 1) - 1) - 1) ∧ 600 ≤ (((rs - 10) - 10) - 1800) ∧ (∀ n24, n24 = g_b G + x_n M23 → ∀ M25, M25 = x_new M23 n24 1 600 → (x_h M25 o).1 = 28 ∧ (∀ M30, M30 = x_sr M25 o 5 (some n24) → 1 ≤ ((((rc - 1) - 1) - 1) - 1) ∧ 10 ≤ ((((rs - 10) - 10) - 1800) - 600) ∧ (∀ n31, n31 = g_b G + x_n M30 → ∀ M32, M32 = x_new M30 n31 1 10 → (x_h M32 o).1 = 28 ∧ (∀ M37, M37 = x_sr M32 o 6 (some n31) → 1 ≤ (((((rc - 1) - 1) - 1) - 1) - 1) ∧ 10 ≤ (((((rs - 10) - 10) - 1800) - 600) - 10) ∧ (∀ n38, n38 = g_b G + x_n M37 → ∀ M39, M39 = x_new M37 n38 1 10 → (x_h M39 o).1 = 28 ∧ (∀ M44, M44 = x_sr M39 o 8 (some n38) → LX12_init_59 G d ((((((rc - 1) - 1) - 1) - 1) - 1) - 1) ((((((rs - 10) - 10) - 1800) - 600) - 10) - 10) o M44 Q)))))))))))))) : Call G (d + 1) rc rs mX12_init [.ref o] M Q := by
  refine call_of (by decide) (Nat.le_of_ble_eq_true rfl) ?_
  show Wk G (d + 1) rc rs mX12_init 0 [some (.ref o), none] [] M Q
  refine r_aload_n (pc := 0) (i := 0) dX12_init_0 rfl rfl ?_
  refine r_objInit (pc := 1) (st := []) ww_1203 ww_28 ww_29 dX12_init_1 (Nat.le_of_ble_eq_true rfl) ?_
  refine r_aload_n (pc := 4) (i := 0) dX12_init_4 rfl rfl ?_
  refine r_iconst (pc := 5) (v := 2) dX12_init_5 (by decide) ?_
  obtain ⟨k1, h⟩ := h
  refine r_puti (pc := 6) flX12_7 dX12_init_6 (Or.inl rfl) (fun q hq => by cases hq; rfl) k1 ?_
  replace h := h _ rfl
  refine r_aload_n (pc := 9) (i := 0) dX12_init_9 rfl rfl ?_
  refine r_bipush (pc := 10) (v := 10) dX12_init_10 (by decide) ?_
  obtain ⟨y6, y7, h⟩ := h
  refine r_newIV (pc := 12) (n := 10) dX12_init_12 (by decide) (by decide) (by decide) y6 y7 (fun n3 M4 enn3 eMn3 e5 => ?_)
  replace h := h n3 enn3 M4 eMn3
  obtain ⟨k8, h⟩ := h
  refine r_putr (pc := 14) (r := some _) flX12_13 dX12_init_14 rfl (fun q hq => by cases hq; exact Or.inr ⟨rfl, rfl, rfl⟩) (fun q hq _ => by cases hq; exact ww_1210) k8 ?_
  replace h := h _ rfl
  refine r_aload_n (pc := 17) (i := 0) dX12_init_17 rfl rfl ?_
  refine r_bipush (pc := 18) (v := 10) dX12_init_18 (by decide) ?_
  obtain ⟨y13, y14, h⟩ := h
  refine r_newIV (pc := 20) (n := 10) dX12_init_20 (by decide) (by decide) (by decide) y13 y14 (fun n10 M11 enn10 eMn10 e12 => ?_)
  replace h := h n10 enn10 M11 eMn10
  obtain ⟨k15, h⟩ := h
  refine r_putr (pc := 22) (r := some _) flX12_17 dX12_init_22 rfl (fun q hq => by cases hq; exact Or.inr ⟨rfl, rfl, rfl⟩) (fun q hq _ => by cases hq; exact ww_1211) k15 ?_
  replace h := h _ rfl
  refine r_aload_n (pc := 25) (i := 0) dX12_init_25 rfl rfl ?_
  refine r_sipush (pc := 26) (v := 1800) dX12_init_26 (by decide) ?_
  obtain ⟨y20, y21, h⟩ := h
  refine r_newIV (pc := 29) (n := 1800) dX12_init_29 (by decide) (by decide) (by decide) y20 y21 (fun n17 M18 enn17 eMn17 e19 => ?_)
  replace h := h n17 enn17 M18 eMn17
  obtain ⟨k22, h⟩ := h
  refine r_putr (pc := 31) (r := some _) flX12_20 dX12_init_31 rfl (fun q hq => by cases hq; exact Or.inr ⟨rfl, rfl, rfl⟩) (fun q hq _ => by cases hq; exact ww_1212) k22 ?_
  replace h := h _ rfl
  refine r_aload_n (pc := 34) (i := 0) dX12_init_34 rfl rfl ?_
  refine r_sipush (pc := 35) (v := 600) dX12_init_35 (by decide) ?_
  obtain ⟨y27, y28, h⟩ := h
  refine r_newIV (pc := 38) (n := 600) dX12_init_38 (by decide) (by decide) (by decide) y27 y28 (fun n24 M25 enn24 eMn24 e26 => ?_)
  replace h := h n24 enn24 M25 eMn24
  obtain ⟨k29, h⟩ := h
  refine r_putr (pc := 40) (r := some _) flX12_23 dX12_init_40 rfl (fun q hq => by cases hq; exact Or.inr ⟨rfl, rfl, rfl⟩) (fun q hq _ => by cases hq; exact ww_1213) k29 ?_
  replace h := h _ rfl
  refine r_aload_n (pc := 43) (i := 0) dX12_init_43 rfl rfl ?_
  refine r_bipush (pc := 44) (v := 10) dX12_init_44 (by decide) ?_
  obtain ⟨y34, y35, h⟩ := h
  refine r_newIV (pc := 46) (n := 10) dX12_init_46 (by decide) (by decide) (by decide) y34 y35 (fun n31 M32 enn31 eMn31 e33 => ?_)
  replace h := h n31 enn31 M32 eMn31
  obtain ⟨k36, h⟩ := h
  refine r_putr (pc := 48) (r := some _) flX12_26 dX12_init_48 rfl (fun q hq => by cases hq; exact Or.inr ⟨rfl, rfl, rfl⟩) (fun q hq _ => by cases hq; exact ww_1214) k36 ?_
  replace h := h _ rfl
  refine r_aload_n (pc := 51) (i := 0) dX12_init_51 rfl rfl ?_
  refine r_bipush (pc := 52) (v := 10) dX12_init_52 (by decide) ?_
  obtain ⟨y41, y42, h⟩ := h
  refine r_newIV (pc := 54) (n := 10) dX12_init_54 (by decide) (by decide) (by decide) y41 y42 (fun n38 M39 enn38 eMn38 e40 => ?_)
  replace h := h n38 enn38 M39 eMn38
  obtain ⟨k43, h⟩ := h
  refine r_putr (pc := 56) (r := some _) flX12_29 dX12_init_56 rfl (fun q hq => by cases hq; exact Or.inr ⟨rfl, rfl, rfl⟩) (fun q hq _ => by cases hq; exact ww_1216) k43 ?_
  replace h := h _ rfl
  exact h
theorem vX12_init_59 {G : GG} {d rc rs : Nat} (p0 : Nat)  {M : Mem} {Q : Option Value → Mem → Prop} (h : 1 ≤ rc ∧ 10 ≤ rs ∧ (∀ n1, n1 = g_b G + x_n M → ∀ M2, M2 = x_new M n1 1 10 → (x_h M2 p0).1 = 28 ∧ (∀ M7, M7 = x_sr M2 p0 9 (some n1) → 1 ≤ (rc - 1) ∧ 10 ≤ (rs - 10) ∧ (∀ n8, n8 = g_b G + x_n M7 → ∀ M9, M9 = x_new M7 n8 1 10 → (x_h M9 p0).1 = 28 ∧ (∀ M14, M14 = x_sr M9 p0 10 (some n8) → 1 ≤ ((rc - 1) - 1) ∧ 10 ≤ ((rs - 10) - 10) ∧ (∀ n15, n15 = g_b G + x_n M14 → ∀ M16, M16 = x_new M14 n15 1 10 → (x_h M16 p0).1 = 28 ∧ (∀ M21, M21 = x_sr M16 p0 11 (some n15) → 1 ≤ (((rc - 1) - 1) - 1) ∧ 10 ≤ (((rs - 10) - 10) - 10) ∧ (∀ n22, n22 = g_b G + x_n M21 → ∀ M23, M23 = x_new M21 n22 1 10 → (x_h M23 p0).1 = 28 ∧ (∀ M28, M28 = x_sr M23 p0 12 (some n22) → 1 ≤ ((((rc - 1) - 1) - 1) - 1) ∧ 10 ≤ ((((rs - 10) - 10) - 10) - 10) ∧ (∀ n29, n29 = g_b G + x_n M28 → ∀ M30, M30 = x_new M28 n29 1 10 → (x_h M30 p0).1 = 28 ∧ (∀ M35, M35 = x_sr M30 p0 13 (some n29) → 1 ≤ (((((rc - 1) - 1) - 1) - 1) - 1) ∧ 10 ≤ (((((rs - 10) - 10) - 10) - 10) - 10) ∧ (∀ n36, n36 = g_b G + x_n M35 → ∀ M37, M37 = x_new M35 n36 1 10 → (x_h M37 p0).1 = 28 ∧ (∀ M42, M42 = x_sr M37 p0 14 (some n36) → 1 ≤ ((((((rc - 1) - 1) - 1) - 1) - 1) - 1) ∧ 10800 ≤ ((((((rs - 10) - 10) - 10) - 10) - 10) - 10) ∧ (∀ n43, n43 = g_b G + x_n M42 → ∀ M44, M44 = x_new M42 n43 1 10800 → (x_h M44 p0).1 = 28 ∧ (∀ M49, M49 = x_sr M44 p0 15 (some n43) → 1 ≤ (((((((rc - 1) - 1) - 1) - 1) - 1) - 1) - 1) ∧ 400 ≤ (((((((rs - 10) - 10) - 10) - 10) - 10) - 10) - 10800) ∧ (∀ n50, n50 = g_b G + x_n M49 → ∀ M51, M51 = x_new M49 n50 3 400 → (x_h M51 p0).1 = 28 ∧ (∀ M56, M56 = x_sr M51 p0 16 (some n50) → LX12_init_125 G d ((((((((rc - 1) - 1) - 1) - 1) - 1) - 1) - 1) - 1) ((((((((rs - 10) - 10) - 10) - 10) - 10) - 10) - 10800) - 400) p0 M56 Q))))))))))))))))) : LX12_init_59 G d rc rs p0 M Q := by
  show Wk G (d + 1) rc rs mX12_init 59 _ _ M Q
  refine r_aload_n (pc := 59) (i := 0) dX12_init_59 rfl rfl ?_
  refine r_bipush (pc := 60) (v := 10) dX12_init_60 (by decide) ?_
  obtain ⟨y4, y5, h⟩ := h
  refine r_newIV (pc := 62) (n := 10) dX12_init_62 (by decide) (by decide) (by decide) y4 y5 (fun n1 M2 enn1 eMn1 e3 => ?_)
  replace h := h n1 enn1 M2 eMn1
  obtain ⟨k6, h⟩ := h
  refine r_putr (pc := 64) (r := some _) flX12_32 dX12_init_64 rfl (fun q hq => by cases hq; exact Or.inr ⟨rfl, rfl, rfl⟩) (fun q hq _ => by cases hq; exact ww_1217) k6 ?_
  replace h := h _ rfl
  refine r_aload_n (pc := 67) (i := 0) dX12_init_67 rfl rfl ?_
  refine r_bipush (pc := 68) (v := 10) dX12_init_68 (by decide) ?_
  obtain ⟨y11, y12, h⟩ := h
  refine r_newIV (pc := 70) (n := 10) dX12_init_70 (by decide) (by decide) (by decide) y11 y12 (fun n8 M9 enn8 eMn8 e10 => ?_)
  replace h := h n8 enn8 M9 eMn8
  obtain ⟨k13, h⟩ := h
  refine r_putr (pc := 72) (r := some _) flX12_35 dX12_init_72 rfl (fun q hq => by cases hq; exact Or.inr ⟨rfl, rfl, rfl⟩) (fun q hq _ => by cases hq; exact ww_1218) k13 ?_
  replace h := h _ rfl
  refine r_aload_n (pc := 75) (i := 0) dX12_init_75 rfl rfl ?_
  refine r_bipush (pc := 76) (v := 10) dX12_init_76 (by decide) ?_
  obtain ⟨y18, y19, h⟩ := h
  refine r_newIV (pc := 78) (n := 10) dX12_init_78 (by decide) (by decide) (by decide) y18 y19 (fun n15 M16 enn15 eMn15 e17 => ?_)
  replace h := h n15 enn15 M16 eMn15
  obtain ⟨k20, h⟩ := h
  refine r_putr (pc := 80) (r := some _) flX12_38 dX12_init_80 rfl (fun q hq => by cases hq; exact Or.inr ⟨rfl, rfl, rfl⟩) (fun q hq _ => by cases hq; exact ww_1219) k20 ?_
  replace h := h _ rfl
  refine r_aload_n (pc := 83) (i := 0) dX12_init_83 rfl rfl ?_
  refine r_bipush (pc := 84) (v := 10) dX12_init_84 (by decide) ?_
  obtain ⟨y25, y26, h⟩ := h
  refine r_newIV (pc := 86) (n := 10) dX12_init_86 (by decide) (by decide) (by decide) y25 y26 (fun n22 M23 enn22 eMn22 e24 => ?_)
  replace h := h n22 enn22 M23 eMn22
  obtain ⟨k27, h⟩ := h
  refine r_putr (pc := 88) (r := some _) flX12_41 dX12_init_88 rfl (fun q hq => by cases hq; exact Or.inr ⟨rfl, rfl, rfl⟩) (fun q hq _ => by cases hq; exact ww_1220) k27 ?_
  replace h := h _ rfl
  refine r_aload_n (pc := 91) (i := 0) dX12_init_91 rfl rfl ?_
  refine r_bipush (pc := 92) (v := 10) dX12_init_92 (by decide) ?_
  obtain ⟨y32, y33, h⟩ := h
  refine r_newIV (pc := 94) (n := 10) dX12_init_94 (by decide) (by decide) (by decide) y32 y33 (fun n29 M30 enn29 eMn29 e31 => ?_)
  replace h := h n29 enn29 M30 eMn29
  obtain ⟨k34, h⟩ := h
  refine r_putr (pc := 96) (r := some _) flX12_44 dX12_init_96 rfl (fun q hq => by cases hq; exact Or.inr ⟨rfl, rfl, rfl⟩) (fun q hq _ => by cases hq; exact ww_1221) k34 ?_
  replace h := h _ rfl
  refine r_aload_n (pc := 99) (i := 0) dX12_init_99 rfl rfl ?_
  refine r_bipush (pc := 100) (v := 10) dX12_init_100 (by decide) ?_
  obtain ⟨y39, y40, h⟩ := h
  refine r_newIV (pc := 102) (n := 10) dX12_init_102 (by decide) (by decide) (by decide) y39 y40 (fun n36 M37 enn36 eMn36 e38 => ?_)
  replace h := h n36 enn36 M37 eMn36
  obtain ⟨k41, h⟩ := h
  refine r_putr (pc := 104) (r := some _) flX12_47 dX12_init_104 rfl (fun q hq => by cases hq; exact Or.inr ⟨rfl, rfl, rfl⟩) (fun q hq _ => by cases hq; exact ww_1222) k41 ?_
  replace h := h _ rfl
  refine r_aload_n (pc := 107) (i := 0) dX12_init_107 rfl rfl ?_
  refine r_sipush (pc := 108) (v := 10800) dX12_init_108 (by decide) ?_
  obtain ⟨y46, y47, h⟩ := h
  refine r_newIV (pc := 111) (n := 10800) dX12_init_111 (by decide) (by decide) (by decide) y46 y47 (fun n43 M44 enn43 eMn43 e45 => ?_)
  replace h := h n43 enn43 M44 eMn43
  obtain ⟨k48, h⟩ := h
  refine r_putr (pc := 113) (r := some _) flX12_50 dX12_init_113 rfl (fun q hq => by cases hq; exact Or.inr ⟨rfl, rfl, rfl⟩) (fun q hq _ => by cases hq; exact ww_1223) k48 ?_
  replace h := h _ rfl
  refine r_aload_n (pc := 116) (i := 0) dX12_init_116 rfl rfl ?_
  refine r_sipush (pc := 117) (v := 400) dX12_init_117 (by decide) ?_
  obtain ⟨y53, y54, h⟩ := h
  refine r_newZV (pc := 120) (n := 400) dX12_init_120 (by decide) (by decide) (by decide) y53 y54 (fun n50 M51 enn50 eMn50 e52 => ?_)
  replace h := h n50 enn50 M51 eMn50
  obtain ⟨k55, h⟩ := h
  refine r_putr (pc := 122) (r := some _) flX12_53 dX12_init_122 rfl (fun q hq => by cases hq; exact Or.inr ⟨rfl, rfl, rfl⟩) (fun q hq _ => by cases hq; exact ww_1224) k55 ?_
  replace h := h _ rfl
  exact h
theorem vX12_init_125 {G : GG} {d rc rs : Nat} (p0 : Nat)  {M : Mem} {Q : Option Value → Mem → Prop} (h : 1 ≤ rc ∧ 120 ≤ rs ∧ (∀ n1, n1 = g_b G + x_n M → ∀ M2, M2 = x_new M n1 1 120 → (x_h M2 p0).1 = 28 ∧ (∀ M7, M7 = x_sr M2 p0 17 (some n1) → 1 ≤ (rc - 1) ∧ 6 ≤ (rs - 120) ∧ (∀ n8, n8 = g_b G + x_n M7 → ∀ M9, M9 = x_new M7 n8 1 6 → (x_h M9 p0).1 = 28 ∧ (∀ M14, M14 = x_sr M9 p0 19 (some n8) → 1 ≤ ((rc - 1) - 1) ∧ 6 ≤ ((rs - 120) - 6) ∧ (∀ n15, n15 = g_b G + x_n M14 → ∀ M16, M16 = x_new M14 n15 1 6 → (x_h M16 p0).1 = 28 ∧ (∀ M21, M21 = x_sr M16 p0 20 (some n15) → 1 ≤ (((rc - 1) - 1) - 1) ∧ 240 ≤ (((rs - 120) - 6) - 6) ∧ (∀ n22, n22 = g_b G + x_n M21 → ∀ M23, M23 = x_new M21 n22 1 240 → (x_h M23 p0).1 = 28 ∧ (∀ M28, M28 = x_sr M23 p0 21 (some n22) → 1 ≤ ((((rc - 1) - 1) - 1) - 1) ∧ 50 ≤ ((((rs - 120) - 6) - 6) - 240) ∧ (∀ n29, n29 = g_b G + x_n M28 → ∀ M30, M30 = x_new M28 n29 1 50 → (x_h M30 p0).1 = 28 ∧ (∀ M35, M35 = x_sr M30 p0 23 (some n29) → 1 ≤ (((((rc - 1) - 1) - 1) - 1) - 1) ∧ 226800 ≤ (((((rs - 120) - 6) - 6) - 240) - 50) ∧ (∀ n36, n36 = g_b G + x_n M35 → ∀ M37, M37 = x_new M35 n36 1 226800 → (x_h M37 p0).1 = 28 ∧ (∀ M42, M42 = x_sr M37 p0 27 (some n36) → 1 ≤ ((((((rc - 1) - 1) - 1) - 1) - 1) - 1) ∧ 8400 ≤ ((((((rs - 120) - 6) - 6) - 240) - 50) - 226800) ∧ (∀ n43, n43 = g_b G + x_n M42 → ∀ M44, M44 = x_new M42 n43 1 8400 → (x_h M44 p0).1 = 28 ∧ (∀ M49, M49 = x_sr M44 p0 28 (some n43) → 1 ≤ (((((((rc - 1) - 1) - 1) - 1) - 1) - 1) - 1) ∧ 8400 ≤ (((((((rs - 120) - 6) - 6) - 240) - 50) - 226800) - 8400) ∧ (∀ n50, n50 = g_b G + x_n M49 → ∀ M51, M51 = x_new M49 n50 1 8400 → (x_h M51 p0).1 = 28 ∧ (∀ M56, M56 = x_sr M51 p0 30 (some n50) → LX12_init_192 G d ((((((((rc - 1) - 1) - 1) - 1) - 1) - 1) - 1) - 1) ((((((((rs - 120) - 6) - 6) - 240) - 50) - 226800) - 8400) - 8400) p0 M56 Q))))))))))))))))) : LX12_init_125 G d rc rs p0 M Q := by
  show Wk G (d + 1) rc rs mX12_init 125 _ _ M Q
  refine r_aload_n (pc := 125) (i := 0) dX12_init_125 rfl rfl ?_
  refine r_bipush (pc := 126) (v := 120) dX12_init_126 (by decide) ?_
  obtain ⟨y4, y5, h⟩ := h
  refine r_newIV (pc := 128) (n := 120) dX12_init_128 (by decide) (by decide) (by decide) y4 y5 (fun n1 M2 enn1 eMn1 e3 => ?_)
  replace h := h n1 enn1 M2 eMn1
  obtain ⟨k6, h⟩ := h
  refine r_putr (pc := 130) (r := some _) flX12_57 dX12_init_130 rfl (fun q hq => by cases hq; exact Or.inr ⟨rfl, rfl, rfl⟩) (fun q hq _ => by cases hq; exact ww_1225) k6 ?_
  replace h := h _ rfl
  refine r_aload_n (pc := 133) (i := 0) dX12_init_133 rfl rfl ?_
  refine r_bipush (pc := 134) (v := 6) dX12_init_134 (by decide) ?_
  obtain ⟨y11, y12, h⟩ := h
  refine r_newIV (pc := 136) (n := 6) dX12_init_136 (by decide) (by decide) (by decide) y11 y12 (fun n8 M9 enn8 eMn8 e10 => ?_)
  replace h := h n8 enn8 M9 eMn8
  obtain ⟨k13, h⟩ := h
  refine r_putr (pc := 138) (r := some _) flX12_60 dX12_init_138 rfl (fun q hq => by cases hq; exact Or.inr ⟨rfl, rfl, rfl⟩) (fun q hq _ => by cases hq; exact ww_1227) k13 ?_
  replace h := h _ rfl
  refine r_aload_n (pc := 141) (i := 0) dX12_init_141 rfl rfl ?_
  refine r_bipush (pc := 142) (v := 6) dX12_init_142 (by decide) ?_
  obtain ⟨y18, y19, h⟩ := h
  refine r_newIV (pc := 144) (n := 6) dX12_init_144 (by decide) (by decide) (by decide) y18 y19 (fun n15 M16 enn15 eMn15 e17 => ?_)
  replace h := h n15 enn15 M16 eMn15
  obtain ⟨k20, h⟩ := h
  refine r_putr (pc := 146) (r := some _) flX12_63 dX12_init_146 rfl (fun q hq => by cases hq; exact Or.inr ⟨rfl, rfl, rfl⟩) (fun q hq _ => by cases hq; exact ww_1228) k20 ?_
  replace h := h _ rfl
  refine r_aload_n (pc := 149) (i := 0) dX12_init_149 rfl rfl ?_
  refine r_sipush (pc := 150) (v := 240) dX12_init_150 (by decide) ?_
  obtain ⟨y25, y26, h⟩ := h
  refine r_newIV (pc := 153) (n := 240) dX12_init_153 (by decide) (by decide) (by decide) y25 y26 (fun n22 M23 enn22 eMn22 e24 => ?_)
  replace h := h n22 enn22 M23 eMn22
  obtain ⟨k27, h⟩ := h
  refine r_putr (pc := 155) (r := some _) flX12_66 dX12_init_155 rfl (fun q hq => by cases hq; exact Or.inr ⟨rfl, rfl, rfl⟩) (fun q hq _ => by cases hq; exact ww_1229) k27 ?_
  replace h := h _ rfl
  refine r_aload_n (pc := 158) (i := 0) dX12_init_158 rfl rfl ?_
  refine r_bipush (pc := 159) (v := 50) dX12_init_159 (by decide) ?_
  obtain ⟨y32, y33, h⟩ := h
  refine r_newIV (pc := 161) (n := 50) dX12_init_161 (by decide) (by decide) (by decide) y32 y33 (fun n29 M30 enn29 eMn29 e31 => ?_)
  replace h := h n29 enn29 M30 eMn29
  obtain ⟨k34, h⟩ := h
  refine r_putr (pc := 163) (r := some _) flX12_69 dX12_init_163 rfl (fun q hq => by cases hq; exact Or.inr ⟨rfl, rfl, rfl⟩) (fun q hq _ => by cases hq; exact ww_1231) k34 ?_
  replace h := h _ rfl
  refine r_aload_n (pc := 166) (i := 0) dX12_init_166 rfl rfl ?_
  refine r_ldc (pc := 167) (v := 226800) dX12_init_167 ww_1204 ?_
  obtain ⟨y39, y40, h⟩ := h
  refine r_newIV (pc := 169) (n := 226800) dX12_init_169 (by decide) (by decide) (by decide) y39 y40 (fun n36 M37 enn36 eMn36 e38 => ?_)
  replace h := h n36 enn36 M37 eMn36
  obtain ⟨k41, h⟩ := h
  refine r_putr (pc := 171) (r := some _) flX12_73 dX12_init_171 rfl (fun q hq => by cases hq; exact Or.inr ⟨rfl, rfl, rfl⟩) (fun q hq _ => by cases hq; exact ww_1235) k41 ?_
  replace h := h _ rfl
  refine r_aload_n (pc := 174) (i := 0) dX12_init_174 rfl rfl ?_
  refine r_sipush (pc := 175) (v := 8400) dX12_init_175 (by decide) ?_
  obtain ⟨y46, y47, h⟩ := h
  refine r_newIV (pc := 178) (n := 8400) dX12_init_178 (by decide) (by decide) (by decide) y46 y47 (fun n43 M44 enn43 eMn43 e45 => ?_)
  replace h := h n43 enn43 M44 eMn43
  obtain ⟨k48, h⟩ := h
  refine r_putr (pc := 180) (r := some _) flX12_76 dX12_init_180 rfl (fun q hq => by cases hq; exact Or.inr ⟨rfl, rfl, rfl⟩) (fun q hq _ => by cases hq; exact ww_1236) k48 ?_
  replace h := h _ rfl
  refine r_aload_n (pc := 183) (i := 0) dX12_init_183 rfl rfl ?_
  refine r_sipush (pc := 184) (v := 8400) dX12_init_184 (by decide) ?_
  obtain ⟨y53, y54, h⟩ := h
  refine r_newIV (pc := 187) (n := 8400) dX12_init_187 (by decide) (by decide) (by decide) y53 y54 (fun n50 M51 enn50 eMn50 e52 => ?_)
  replace h := h n50 enn50 M51 eMn50
  obtain ⟨k55, h⟩ := h
  refine r_putr (pc := 189) (r := some _) flX12_79 dX12_init_189 rfl (fun q hq => by cases hq; exact Or.inr ⟨rfl, rfl, rfl⟩) (fun q hq _ => by cases hq; exact ww_1238) k55 ?_
  replace h := h _ rfl
  exact h
theorem vX12_init_192 {G : GG} {d rc rs : Nat} (p0 : Nat)  {M : Mem} {Q : Option Value → Mem → Prop} (h : 1 ≤ rc ∧ 8400 ≤ rs ∧ (∀ n1, n1 = g_b G + x_n M → ∀ M2, M2 = x_new M n1 1 8400 → (x_h M2 p0).1 = 28 ∧ (∀ M7, M7 = x_sr M2 p0 31 (some n1) → 1 ≤ (rc - 1) ∧ 32768 ≤ (rs - 8400) ∧ (∀ n8, n8 = g_b G + x_n M7 → ∀ M9, M9 = x_new M7 n8 1 32768 → (x_h M9 p0).1 = 28 ∧ (∀ M14, M14 = x_sr M9 p0 32 (some n8) → 1 ≤ ((rc - 1) - 1) ∧ 8400 ≤ ((rs - 8400) - 32768) ∧ (∀ n15, n15 = g_b G + x_n M14 → ∀ M16, M16 = x_new M14 n15 1 8400 → (x_h M16 p0).1 = 28 ∧ (∀ M21, M21 = x_sr M16 p0 33 (some n15) → 1 ≤ (((rc - 1) - 1) - 1) ∧ 8400 ≤ (((rs - 8400) - 32768) - 8400) ∧ (∀ n22, n22 = g_b G + x_n M21 → ∀ M23, M23 = x_new M21 n22 1 8400 → (x_h M23 p0).1 = 28 ∧ (∀ M28, M28 = x_sr M23 p0 34 (some n22) → 1 ≤ ((((rc - 1) - 1) - 1) - 1) ∧ 3600 ≤ ((((rs - 8400) - 32768) - 8400) - 8400) ∧ (∀ n29, n29 = g_b G + x_n M28 → ∀ M30, M30 = x_new M28 n29 1 3600 → (x_h M30 p0).1 = 28 ∧ (∀ M35, M35 = x_sr M30 p0 35 (some n29) → 1 ≤ (((((rc - 1) - 1) - 1) - 1) - 1) ∧ 8400 ≤ (((((rs - 8400) - 32768) - 8400) - 8400) - 3600) ∧ (∀ n36, n36 = g_b G + x_n M35 → ∀ M37, M37 = x_new M35 n36 1 8400 → (x_h M37 p0).1 = 28 ∧ (∀ M42, M42 = x_sr M37 p0 36 (some n36) → 1 ≤ ((((((rc - 1) - 1) - 1) - 1) - 1) - 1) ∧ 8400 ≤ ((((((rs - 8400) - 32768) - 8400) - 8400) - 3600) - 8400) ∧ (∀ n43, n43 = g_b G + x_n M42 → ∀ M44, M44 = x_new M42 n43 1 8400 → (x_h M44 p0).1 = 28 ∧ (∀ M49, M49 = x_sr M44 p0 37 (some n43) → 1 ≤ (((((((rc - 1) - 1) - 1) - 1) - 1) - 1) - 1) ∧ 130 ≤ (((((((rs - 8400) - 32768) - 8400) - 8400) - 3600) - 8400) - 8400) ∧ (∀ n50, n50 = g_b G + x_n M49 → ∀ M51, M51 = x_new M49 n50 1 130 → (x_h M51 p0).1 = 28 ∧ (∀ M56, M56 = x_sr M51 p0 48 (some n50) → LX12_init_263 G d ((((((((rc - 1) - 1) - 1) - 1) - 1) - 1) - 1) - 1) ((((((((rs - 8400) - 32768) - 8400) - 8400) - 3600) - 8400) - 8400) - 130) p0 M56 Q))))))))))))))))) : LX12_init_192 G d rc rs p0 M Q := by
  show Wk G (d + 1) rc rs mX12_init 192 _ _ M Q
  refine r_aload_n (pc := 192) (i := 0) dX12_init_192 rfl rfl ?_
  refine r_sipush (pc := 193) (v := 8400) dX12_init_193 (by decide) ?_
  obtain ⟨y4, y5, h⟩ := h
  refine r_newIV (pc := 196) (n := 8400) dX12_init_196 (by decide) (by decide) (by decide) y4 y5 (fun n1 M2 enn1 eMn1 e3 => ?_)
  replace h := h n1 enn1 M2 eMn1
  obtain ⟨k6, h⟩ := h
  refine r_putr (pc := 198) (r := some _) flX12_82 dX12_init_198 rfl (fun q hq => by cases hq; exact Or.inr ⟨rfl, rfl, rfl⟩) (fun q hq _ => by cases hq; exact ww_1239) k6 ?_
  replace h := h _ rfl
  refine r_aload_n (pc := 201) (i := 0) dX12_init_201 rfl rfl ?_
  refine r_ldc (pc := 202) (v := 32768) dX12_init_202 ww_1205 ?_
  obtain ⟨y11, y12, h⟩ := h
  refine r_newIV (pc := 204) (n := 32768) dX12_init_204 (by decide) (by decide) (by decide) y11 y12 (fun n8 M9 enn8 eMn8 e10 => ?_)
  replace h := h n8 enn8 M9 eMn8
  obtain ⟨k13, h⟩ := h
  refine r_putr (pc := 206) (r := some _) flX12_86 dX12_init_206 rfl (fun q hq => by cases hq; exact Or.inr ⟨rfl, rfl, rfl⟩) (fun q hq _ => by cases hq; exact ww_1240) k13 ?_
  replace h := h _ rfl
  refine r_aload_n (pc := 209) (i := 0) dX12_init_209 rfl rfl ?_
  refine r_sipush (pc := 210) (v := 8400) dX12_init_210 (by decide) ?_
  obtain ⟨y18, y19, h⟩ := h
  refine r_newIV (pc := 213) (n := 8400) dX12_init_213 (by decide) (by decide) (by decide) y18 y19 (fun n15 M16 enn15 eMn15 e17 => ?_)
  replace h := h n15 enn15 M16 eMn15
  obtain ⟨k20, h⟩ := h
  refine r_putr (pc := 215) (r := some _) flX12_89 dX12_init_215 rfl (fun q hq => by cases hq; exact Or.inr ⟨rfl, rfl, rfl⟩) (fun q hq _ => by cases hq; exact ww_1241) k20 ?_
  replace h := h _ rfl
  refine r_aload_n (pc := 218) (i := 0) dX12_init_218 rfl rfl ?_
  refine r_sipush (pc := 219) (v := 8400) dX12_init_219 (by decide) ?_
  obtain ⟨y25, y26, h⟩ := h
  refine r_newIV (pc := 222) (n := 8400) dX12_init_222 (by decide) (by decide) (by decide) y25 y26 (fun n22 M23 enn22 eMn22 e24 => ?_)
  replace h := h n22 enn22 M23 eMn22
  obtain ⟨k27, h⟩ := h
  refine r_putr (pc := 224) (r := some _) flX12_92 dX12_init_224 rfl (fun q hq => by cases hq; exact Or.inr ⟨rfl, rfl, rfl⟩) (fun q hq _ => by cases hq; exact ww_1242) k27 ?_
  replace h := h _ rfl
  refine r_aload_n (pc := 227) (i := 0) dX12_init_227 rfl rfl ?_
  refine r_sipush (pc := 228) (v := 3600) dX12_init_228 (by decide) ?_
  obtain ⟨y32, y33, h⟩ := h
  refine r_newIV (pc := 231) (n := 3600) dX12_init_231 (by decide) (by decide) (by decide) y32 y33 (fun n29 M30 enn29 eMn29 e31 => ?_)
  replace h := h n29 enn29 M30 eMn29
  obtain ⟨k34, h⟩ := h
  refine r_putr (pc := 233) (r := some _) flX12_95 dX12_init_233 rfl (fun q hq => by cases hq; exact Or.inr ⟨rfl, rfl, rfl⟩) (fun q hq _ => by cases hq; exact ww_1243) k34 ?_
  replace h := h _ rfl
  refine r_aload_n (pc := 236) (i := 0) dX12_init_236 rfl rfl ?_
  refine r_sipush (pc := 237) (v := 8400) dX12_init_237 (by decide) ?_
  obtain ⟨y39, y40, h⟩ := h
  refine r_newIV (pc := 240) (n := 8400) dX12_init_240 (by decide) (by decide) (by decide) y39 y40 (fun n36 M37 enn36 eMn36 e38 => ?_)
  replace h := h n36 enn36 M37 eMn36
  obtain ⟨k41, h⟩ := h
  refine r_putr (pc := 242) (r := some _) flX12_98 dX12_init_242 rfl (fun q hq => by cases hq; exact Or.inr ⟨rfl, rfl, rfl⟩) (fun q hq _ => by cases hq; exact ww_1244) k41 ?_
  replace h := h _ rfl
  refine r_aload_n (pc := 245) (i := 0) dX12_init_245 rfl rfl ?_
  refine r_sipush (pc := 246) (v := 8400) dX12_init_246 (by decide) ?_
  obtain ⟨y46, y47, h⟩ := h
  refine r_newIV (pc := 249) (n := 8400) dX12_init_249 (by decide) (by decide) (by decide) y46 y47 (fun n43 M44 enn43 eMn43 e45 => ?_)
  replace h := h n43 enn43 M44 eMn43
  obtain ⟨k48, h⟩ := h
  refine r_putr (pc := 251) (r := some _) flX12_101 dX12_init_251 rfl (fun q hq => by cases hq; exact Or.inr ⟨rfl, rfl, rfl⟩) (fun q hq _ => by cases hq; exact ww_1245) k48 ?_
  replace h := h _ rfl
  refine r_aload_n (pc := 254) (i := 0) dX12_init_254 rfl rfl ?_
  refine r_sipush (pc := 255) (v := 130) dX12_init_255 (by decide) ?_
  obtain ⟨y53, y54, h⟩ := h
  refine r_newIV (pc := 258) (n := 130) dX12_init_258 (by decide) (by decide) (by decide) y53 y54 (fun n50 M51 enn50 eMn50 e52 => ?_)
  replace h := h n50 enn50 M51 eMn50
  obtain ⟨k55, h⟩ := h
  refine r_putr (pc := 260) (r := some _) flX12_104 dX12_init_260 rfl (fun q hq => by cases hq; exact Or.inr ⟨rfl, rfl, rfl⟩) (fun q hq _ => by cases hq; exact ww_1256) k55 ?_
  replace h := h _ rfl
  exact h
theorem vX12_init_263 {G : GG} {d rc rs : Nat} (p0 : Nat)  {M : Mem} {Q : Option Value → Mem → Prop} (h : 1 ≤ rc ∧ 130 ≤ rs ∧ (∀ n1, n1 = g_b G + x_n M → ∀ M2, M2 = x_new M n1 1 130 → (x_h M2 p0).1 = 28 ∧ (∀ M7, M7 = x_sr M2 p0 49 (some n1) → 1 ≤ (rc - 1) ∧ 130 ≤ (rs - 130) ∧ (∀ n8, n8 = g_b G + x_n M7 → ∀ M9, M9 = x_new M7 n8 1 130 → (x_h M9 p0).1 = 28 ∧ (∀ M14, M14 = x_sr M9 p0 50 (some n8) → 1 ≤ ((rc - 1) - 1) ∧ 130 ≤ ((rs - 130) - 130) ∧ (∀ n15, n15 = g_b G + x_n M14 → ∀ M16, M16 = x_new M14 n15 1 130 → (x_h M16 p0).1 = 28 ∧ (∀ M21, M21 = x_sr M16 p0 51 (some n15) → 1 ≤ (((rc - 1) - 1) - 1) ∧ 130 ≤ (((rs - 130) - 130) - 130) ∧ (∀ n22, n22 = g_b G + x_n M21 → ∀ M23, M23 = x_new M21 n22 1 130 → (x_h M23 p0).1 = 28 ∧ (∀ M28, M28 = x_sr M23 p0 52 (some n22) → 1 ≤ ((((rc - 1) - 1) - 1) - 1) ∧ 130 ≤ ((((rs - 130) - 130) - 130) - 130) ∧ (∀ n29, n29 = g_b G + x_n M28 → ∀ M30, M30 = x_new M28 n29 1 130 → (x_h M30 p0).1 = 28 ∧ (∀ M35, M35 = x_sr M30 p0 53 (some n29) → 1 ≤ (((((rc - 1) - 1) - 1) - 1) - 1) ∧ 1040 ≤ (((((rs - 130) - 130) - 130) - 130) - 130) ∧ (∀ n36, n36 = g_b G + x_n M35 → ∀ M37, M37 = x_new M35 n36 1 1040 → (x_h M37 p0).1 = 28 ∧ (∀ M42, M42 = x_sr M37 p0 54 (some n36) → 1 ≤ ((((((rc - 1) - 1) - 1) - 1) - 1) - 1) ∧ 130 ≤ ((((((rs - 130) - 130) - 130) - 130) - 130) - 1040) ∧ (∀ n43, n43 = g_b G + x_n M42 → ∀ M44, M44 = x_new M42 n43 1 130 → (x_h M44 p0).1 = 28 ∧ (∀ M49, M49 = x_sr M44 p0 55 (some n43) → 1 ≤ (((((((rc - 1) - 1) - 1) - 1) - 1) - 1) - 1) ∧ 130 ≤ (((((((rs - 130) - 130) - 130) - 130) - 130) - 1040) - 130) ∧ (∀ n50, n50 = g_b G + x_n M49 → ∀ M51, M51 = x_new M49 n50 1 130 → (x_h M51 p0).1 = 28 ∧ (∀ M56, M56 = x_sr M51 p0 56 (some n50) → LX12_init_335 G d ((((((((rc - 1) - 1) - 1) - 1) - 1) - 1) - 1) - 1) ((((((((rs - 130) - 130) - 130) - 130) - 130) - 1040) - 130) - 130) p0 M56 Q))))))))))))))))) : LX12_init_263 G d rc rs p0 M Q := by
  show Wk G (d + 1) rc rs mX12_init 263 _ _ M Q
  refine r_aload_n (pc := 263) (i := 0) dX12_init_263 rfl rfl ?_
  refine r_sipush (pc := 264) (v := 130) dX12_init_264 (by decide) ?_
  obtain ⟨y4, y5, h⟩ := h
  refine r_newIV (pc := 267) (n := 130) dX12_init_267 (by decide) (by decide) (by decide) y4 y5 (fun n1 M2 enn1 eMn1 e3 => ?_)
  replace h := h n1 enn1 M2 eMn1
  obtain ⟨k6, h⟩ := h
  refine r_putr (pc := 269) (r := some _) flX12_107 dX12_init_269 rfl (fun q hq => by cases hq; exact Or.inr ⟨rfl, rfl, rfl⟩) (fun q hq _ => by cases hq; exact ww_1257) k6 ?_
  replace h := h _ rfl
  refine r_aload_n (pc := 272) (i := 0) dX12_init_272 rfl rfl ?_
  refine r_sipush (pc := 273) (v := 130) dX12_init_273 (by decide) ?_
  obtain ⟨y11, y12, h⟩ := h
  refine r_newIV (pc := 276) (n := 130) dX12_init_276 (by decide) (by decide) (by decide) y11 y12 (fun n8 M9 enn8 eMn8 e10 => ?_)
  replace h := h n8 enn8 M9 eMn8
  obtain ⟨k13, h⟩ := h
  refine r_putr (pc := 278) (r := some _) flX12_110 dX12_init_278 rfl (fun q hq => by cases hq; exact Or.inr ⟨rfl, rfl, rfl⟩) (fun q hq _ => by cases hq; exact ww_1258) k13 ?_
  replace h := h _ rfl
  refine r_aload_n (pc := 281) (i := 0) dX12_init_281 rfl rfl ?_
  refine r_sipush (pc := 282) (v := 130) dX12_init_282 (by decide) ?_
  obtain ⟨y18, y19, h⟩ := h
  refine r_newIV (pc := 285) (n := 130) dX12_init_285 (by decide) (by decide) (by decide) y18 y19 (fun n15 M16 enn15 eMn15 e17 => ?_)
  replace h := h n15 enn15 M16 eMn15
  obtain ⟨k20, h⟩ := h
  refine r_putr (pc := 287) (r := some _) flX12_113 dX12_init_287 rfl (fun q hq => by cases hq; exact Or.inr ⟨rfl, rfl, rfl⟩) (fun q hq _ => by cases hq; exact ww_1259) k20 ?_
  replace h := h _ rfl
  refine r_aload_n (pc := 290) (i := 0) dX12_init_290 rfl rfl ?_
  refine r_sipush (pc := 291) (v := 130) dX12_init_291 (by decide) ?_
  obtain ⟨y25, y26, h⟩ := h
  refine r_newIV (pc := 294) (n := 130) dX12_init_294 (by decide) (by decide) (by decide) y25 y26 (fun n22 M23 enn22 eMn22 e24 => ?_)
  replace h := h n22 enn22 M23 eMn22
  obtain ⟨k27, h⟩ := h
  refine r_putr (pc := 296) (r := some _) flX12_116 dX12_init_296 rfl (fun q hq => by cases hq; exact Or.inr ⟨rfl, rfl, rfl⟩) (fun q hq _ => by cases hq; exact ww_1260) k27 ?_
  replace h := h _ rfl
  refine r_aload_n (pc := 299) (i := 0) dX12_init_299 rfl rfl ?_
  refine r_sipush (pc := 300) (v := 130) dX12_init_300 (by decide) ?_
  obtain ⟨y32, y33, h⟩ := h
  refine r_newIV (pc := 303) (n := 130) dX12_init_303 (by decide) (by decide) (by decide) y32 y33 (fun n29 M30 enn29 eMn29 e31 => ?_)
  replace h := h n29 enn29 M30 eMn29
  obtain ⟨k34, h⟩ := h
  refine r_putr (pc := 305) (r := some _) flX12_119 dX12_init_305 rfl (fun q hq => by cases hq; exact Or.inr ⟨rfl, rfl, rfl⟩) (fun q hq _ => by cases hq; exact ww_1261) k34 ?_
  replace h := h _ rfl
  refine r_aload_n (pc := 308) (i := 0) dX12_init_308 rfl rfl ?_
  refine r_sipush (pc := 309) (v := 1040) dX12_init_309 (by decide) ?_
  obtain ⟨y39, y40, h⟩ := h
  refine r_newIV (pc := 312) (n := 1040) dX12_init_312 (by decide) (by decide) (by decide) y39 y40 (fun n36 M37 enn36 eMn36 e38 => ?_)
  replace h := h n36 enn36 M37 eMn36
  obtain ⟨k41, h⟩ := h
  refine r_putr (pc := 314) (r := some _) flX12_122 dX12_init_314 rfl (fun q hq => by cases hq; exact Or.inr ⟨rfl, rfl, rfl⟩) (fun q hq _ => by cases hq; exact ww_1262) k41 ?_
  replace h := h _ rfl
  refine r_aload_n (pc := 317) (i := 0) dX12_init_317 rfl rfl ?_
  refine r_sipush (pc := 318) (v := 130) dX12_init_318 (by decide) ?_
  obtain ⟨y46, y47, h⟩ := h
  refine r_newIV (pc := 321) (n := 130) dX12_init_321 (by decide) (by decide) (by decide) y46 y47 (fun n43 M44 enn43 eMn43 e45 => ?_)
  replace h := h n43 enn43 M44 eMn43
  obtain ⟨k48, h⟩ := h
  refine r_putr (pc := 323) (r := some _) flX12_125 dX12_init_323 rfl (fun q hq => by cases hq; exact Or.inr ⟨rfl, rfl, rfl⟩) (fun q hq _ => by cases hq; exact ww_1263) k48 ?_
  replace h := h _ rfl
  refine r_aload_n (pc := 326) (i := 0) dX12_init_326 rfl rfl ?_
  refine r_sipush (pc := 327) (v := 130) dX12_init_327 (by decide) ?_
  obtain ⟨y53, y54, h⟩ := h
  refine r_newIV (pc := 330) (n := 130) dX12_init_330 (by decide) (by decide) (by decide) y53 y54 (fun n50 M51 enn50 eMn50 e52 => ?_)
  replace h := h n50 enn50 M51 eMn50
  obtain ⟨k55, h⟩ := h
  refine r_putr (pc := 332) (r := some _) flX12_128 dX12_init_332 rfl (fun q hq => by cases hq; exact Or.inr ⟨rfl, rfl, rfl⟩) (fun q hq _ => by cases hq; exact ww_1264) k55 ?_
  replace h := h _ rfl
  exact h
theorem vX12_init_335 {G : GG} {d rc rs : Nat} (p0 : Nat)  {M : Mem} {Q : Option Value → Mem → Prop} (h : 1 ≤ rc ∧ 130 ≤ rs ∧ (∀ n1, n1 = g_b G + x_n M → ∀ M2, M2 = x_new M n1 1 130 → (x_h M2 p0).1 = 28 ∧ (∀ M7, M7 = x_sr M2 p0 57 (some n1) → 1 ≤ (rc - 1) ∧ 130 ≤ (rs - 130) ∧ (∀ n8, n8 = g_b G + x_n M7 → ∀ M9, M9 = x_new M7 n8 1 130 → (x_h M9 p0).1 = 28 ∧ (∀ M14, M14 = x_sr M9 p0 58 (some n8) → 1 ≤ ((rc - 1) - 1) ∧ 130 ≤ ((rs - 130) - 130) ∧ (∀ n15, n15 = g_b G + x_n M14 → ∀ M16, M16 = x_new M14 n15 1 130 → (x_h M16 p0).1 = 28 ∧ (∀ M21, M21 = x_sr M16 p0 59 (some n15) → 1 ≤ (((rc - 1) - 1) - 1) ∧ 130 ≤ (((rs - 130) - 130) - 130) ∧ (∀ n22, n22 = g_b G + x_n M21 → ∀ M23, M23 = x_new M21 n22 1 130 → (x_h M23 p0).1 = 28 ∧ (∀ M28, M28 = x_sr M23 p0 60 (some n22) → 1 ≤ ((((rc - 1) - 1) - 1) - 1) ∧ 130 ≤ ((((rs - 130) - 130) - 130) - 130) ∧ (∀ n29, n29 = g_b G + x_n M28 → ∀ M30, M30 = x_new M28 n29 1 130 → (x_h M30 p0).1 = 28 ∧ (∀ M35, M35 = x_sr M30 p0 61 (some n29) → 1 ≤ (((((rc - 1) - 1) - 1) - 1) - 1) ∧ 130 ≤ (((((rs - 130) - 130) - 130) - 130) - 130) ∧ (∀ n36, n36 = g_b G + x_n M35 → ∀ M37, M37 = x_new M35 n36 1 130 → (x_h M37 p0).1 = 28 ∧ (∀ M42, M42 = x_sr M37 p0 62 (some n36) → 1 ≤ ((((((rc - 1) - 1) - 1) - 1) - 1) - 1) ∧ 130 ≤ ((((((rs - 130) - 130) - 130) - 130) - 130) - 130) ∧ (∀ n43, n43 = g_b G + x_n M42 → ∀ M44, M44 = x_new M42 n43 1 130 → (x_h M44 p0).1 = 28 ∧ (∀ M49, M49 = x_sr M44 p0 63 (some n43) → 1 ≤ (((((((rc - 1) - 1) - 1) - 1) - 1) - 1) - 1) ∧ 130 ≤ (((((((rs - 130) - 130) - 130) - 130) - 130) - 130) - 130) ∧ (∀ n50, n50 = g_b G + x_n M49 → ∀ M51, M51 = x_new M49 n50 1 130 → (x_h M51 p0).1 = 28 ∧ (∀ M56, M56 = x_sr M51 p0 64 (some n50) → LX12_init_407 G d ((((((((rc - 1) - 1) - 1) - 1) - 1) - 1) - 1) - 1) ((((((((rs - 130) - 130) - 130) - 130) - 130) - 130) - 130) - 130) p0 M56 Q))))))))))))))))) : LX12_init_335 G d rc rs p0 M Q := by
  show Wk G (d + 1) rc rs mX12_init 335 _ _ M Q
  refine r_aload_n (pc := 335) (i := 0) dX12_init_335 rfl rfl ?_
  refine r_sipush (pc := 336) (v := 130) dX12_init_336 (by decide) ?_
  obtain ⟨y4, y5, h⟩ := h
  refine r_newIV (pc := 339) (n := 130) dX12_init_339 (by decide) (by decide) (by decide) y4 y5 (fun n1 M2 enn1 eMn1 e3 => ?_)
  replace h := h n1 enn1 M2 eMn1
  obtain ⟨k6, h⟩ := h
  refine r_putr (pc := 341) (r := some _) flX12_131 dX12_init_341 rfl (fun q hq => by cases hq; exact Or.inr ⟨rfl, rfl, rfl⟩) (fun q hq _ => by cases hq; exact ww_1265) k6 ?_
  replace h := h _ rfl
  refine r_aload_n (pc := 344) (i := 0) dX12_init_344 rfl rfl ?_
  refine r_sipush (pc := 345) (v := 130) dX12_init_345 (by decide) ?_
  obtain ⟨y11, y12, h⟩ := h
  refine r_newIV (pc := 348) (n := 130) dX12_init_348 (by decide) (by decide) (by decide) y11 y12 (fun n8 M9 enn8 eMn8 e10 => ?_)
  replace h := h n8 enn8 M9 eMn8
  obtain ⟨k13, h⟩ := h
  refine r_putr (pc := 350) (r := some _) flX12_134 dX12_init_350 rfl (fun q hq => by cases hq; exact Or.inr ⟨rfl, rfl, rfl⟩) (fun q hq _ => by cases hq; exact ww_1266) k13 ?_
  replace h := h _ rfl
  refine r_aload_n (pc := 353) (i := 0) dX12_init_353 rfl rfl ?_
  refine r_sipush (pc := 354) (v := 130) dX12_init_354 (by decide) ?_
  obtain ⟨y18, y19, h⟩ := h
  refine r_newIV (pc := 357) (n := 130) dX12_init_357 (by decide) (by decide) (by decide) y18 y19 (fun n15 M16 enn15 eMn15 e17 => ?_)
  replace h := h n15 enn15 M16 eMn15
  obtain ⟨k20, h⟩ := h
  refine r_putr (pc := 359) (r := some _) flX12_137 dX12_init_359 rfl (fun q hq => by cases hq; exact Or.inr ⟨rfl, rfl, rfl⟩) (fun q hq _ => by cases hq; exact ww_1267) k20 ?_
  replace h := h _ rfl
  refine r_aload_n (pc := 362) (i := 0) dX12_init_362 rfl rfl ?_
  refine r_sipush (pc := 363) (v := 130) dX12_init_363 (by decide) ?_
  obtain ⟨y25, y26, h⟩ := h
  refine r_newIV (pc := 366) (n := 130) dX12_init_366 (by decide) (by decide) (by decide) y25 y26 (fun n22 M23 enn22 eMn22 e24 => ?_)
  replace h := h n22 enn22 M23 eMn22
  obtain ⟨k27, h⟩ := h
  refine r_putr (pc := 368) (r := some _) flX12_140 dX12_init_368 rfl (fun q hq => by cases hq; exact Or.inr ⟨rfl, rfl, rfl⟩) (fun q hq _ => by cases hq; exact ww_1268) k27 ?_
  replace h := h _ rfl
  refine r_aload_n (pc := 371) (i := 0) dX12_init_371 rfl rfl ?_
  refine r_sipush (pc := 372) (v := 130) dX12_init_372 (by decide) ?_
  obtain ⟨y32, y33, h⟩ := h
  refine r_newIV (pc := 375) (n := 130) dX12_init_375 (by decide) (by decide) (by decide) y32 y33 (fun n29 M30 enn29 eMn29 e31 => ?_)
  replace h := h n29 enn29 M30 eMn29
  obtain ⟨k34, h⟩ := h
  refine r_putr (pc := 377) (r := some _) flX12_143 dX12_init_377 rfl (fun q hq => by cases hq; exact Or.inr ⟨rfl, rfl, rfl⟩) (fun q hq _ => by cases hq; exact ww_1269) k34 ?_
  replace h := h _ rfl
  refine r_aload_n (pc := 380) (i := 0) dX12_init_380 rfl rfl ?_
  refine r_sipush (pc := 381) (v := 130) dX12_init_381 (by decide) ?_
  obtain ⟨y39, y40, h⟩ := h
  refine r_newIV (pc := 384) (n := 130) dX12_init_384 (by decide) (by decide) (by decide) y39 y40 (fun n36 M37 enn36 eMn36 e38 => ?_)
  replace h := h n36 enn36 M37 eMn36
  obtain ⟨k41, h⟩ := h
  refine r_putr (pc := 386) (r := some _) flX12_146 dX12_init_386 rfl (fun q hq => by cases hq; exact Or.inr ⟨rfl, rfl, rfl⟩) (fun q hq _ => by cases hq; exact ww_1270) k41 ?_
  replace h := h _ rfl
  refine r_aload_n (pc := 389) (i := 0) dX12_init_389 rfl rfl ?_
  refine r_sipush (pc := 390) (v := 130) dX12_init_390 (by decide) ?_
  obtain ⟨y46, y47, h⟩ := h
  refine r_newIV (pc := 393) (n := 130) dX12_init_393 (by decide) (by decide) (by decide) y46 y47 (fun n43 M44 enn43 eMn43 e45 => ?_)
  replace h := h n43 enn43 M44 eMn43
  obtain ⟨k48, h⟩ := h
  refine r_putr (pc := 395) (r := some _) flX12_149 dX12_init_395 rfl (fun q hq => by cases hq; exact Or.inr ⟨rfl, rfl, rfl⟩) (fun q hq _ => by cases hq; exact ww_1271) k48 ?_
  replace h := h _ rfl
  refine r_aload_n (pc := 398) (i := 0) dX12_init_398 rfl rfl ?_
  refine r_sipush (pc := 399) (v := 130) dX12_init_399 (by decide) ?_
  obtain ⟨y53, y54, h⟩ := h
  refine r_newIV (pc := 402) (n := 130) dX12_init_402 (by decide) (by decide) (by decide) y53 y54 (fun n50 M51 enn50 eMn50 e52 => ?_)
  replace h := h n50 enn50 M51 eMn50
  obtain ⟨k55, h⟩ := h
  refine r_putr (pc := 404) (r := some _) flX12_152 dX12_init_404 rfl (fun q hq => by cases hq; exact Or.inr ⟨rfl, rfl, rfl⟩) (fun q hq _ => by cases hq; exact ww_1272) k55 ?_
  replace h := h _ rfl
  exact h
theorem vX12_init_407 {G : GG} {d rc rs : Nat} (p0 : Nat)  {M : Mem} {Q : Option Value → Mem → Prop} (h : 1 ≤ rc ∧ 8 ≤ rs ∧ (∀ n1, n1 = g_b G + x_n M → ∀ M2, M2 = x_new M n1 1 8 → (x_h M2 p0).1 = 28 ∧ (∀ M7, M7 = x_sr M2 p0 65 (some n1) → 1 ≤ (rc - 1) ∧ 130 ≤ (rs - 8) ∧ (∀ n8, n8 = g_b G + x_n M7 → ∀ M9, M9 = x_new M7 n8 1 130 → (x_h M9 p0).1 = 28 ∧ (∀ M14, M14 = x_sr M9 p0 73 (some n8) → 1 ≤ ((rc - 1) - 1) ∧ 140400 ≤ ((rs - 8) - 130) ∧ (∀ n15, n15 = g_b G + x_n M14 → ∀ M16, M16 = x_new M14 n15 1 140400 → (x_h M16 p0).1 = 28 ∧ (∀ M21, M21 = x_sr M16 p0 74 (some n15) → 1 ≤ (((rc - 1) - 1) - 1) ∧ 5200 ≤ (((rs - 8) - 130) - 140400) ∧ (∀ n22, n22 = g_b G + x_n M21 → ∀ M23, M23 = x_new M21 n22 3 5200 → (x_h M23 p0).1 = 28 ∧ (∀ M28, M28 = x_sr M23 p0 75 (some n22) → 1 ≤ ((((rc - 1) - 1) - 1) - 1) ∧ 302 ≤ ((((rs - 8) - 130) - 140400) - 5200) ∧ (∀ n29, n29 = g_b G + x_n M28 → ∀ M30, M30 = x_new M28 n29 2 302 → (x_h M30 p0).1 = 28 ∧ (∀ M35, M35 = x_sr M30 p0 76 (some n29) → 1 ≤ (((((rc - 1) - 1) - 1) - 1) - 1) ∧ 8400 ≤ (((((rs - 8) - 130) - 140400) - 5200) - 302) ∧ (∀ n36, n36 = g_b G + x_n M35 → ∀ M37, M37 = x_new M35 n36 1 8400 → (x_h M37 p0).1 = 28 ∧ (∀ M42, M42 = x_sr M37 p0 77 (some n36) → 1 ≤ ((((((rc - 1) - 1) - 1) - 1) - 1) - 1) ∧ 2160 ≤ ((((((rs - 8) - 130) - 140400) - 5200) - 302) - 8400) ∧ (∀ n43, n43 = g_b G + x_n M42 → ∀ M44, M44 = x_new M42 n43 1 2160 → (x_h M44 p0).1 = 28 ∧ (∀ M49, M49 = x_sr M44 p0 80 (some n43) → 1 ≤ (((((((rc - 1) - 1) - 1) - 1) - 1) - 1) - 1) ∧ 80 ≤ (((((((rs - 8) - 130) - 140400) - 5200) - 302) - 8400) - 2160) ∧ (∀ n50, n50 = g_b G + x_n M49 → ∀ M51, M51 = x_new M49 n50 1 80 → (x_h M51 p0).1 = 28 ∧ (∀ M56, M56 = x_sr M51 p0 81 (some n50) → LX12_init_476 G d ((((((((rc - 1) - 1) - 1) - 1) - 1) - 1) - 1) - 1) ((((((((rs - 8) - 130) - 140400) - 5200) - 302) - 8400) - 2160) - 80) p0 M56 Q))))))))))))))))) : LX12_init_407 G d rc rs p0 M Q := by
  show Wk G (d + 1) rc rs mX12_init 407 _ _ M Q
  refine r_aload_n (pc := 407) (i := 0) dX12_init_407 rfl rfl ?_
  refine r_bipush (pc := 408) (v := 8) dX12_init_408 (by decide) ?_
  obtain ⟨y4, y5, h⟩ := h
  refine r_newIV (pc := 410) (n := 8) dX12_init_410 (by decide) (by decide) (by decide) y4 y5 (fun n1 M2 enn1 eMn1 e3 => ?_)
  replace h := h n1 enn1 M2 eMn1
  obtain ⟨k6, h⟩ := h
  refine r_putr (pc := 412) (r := some _) flX12_155 dX12_init_412 rfl (fun q hq => by cases hq; exact Or.inr ⟨rfl, rfl, rfl⟩) (fun q hq _ => by cases hq; exact ww_1273) k6 ?_
  replace h := h _ rfl
  refine r_aload_n (pc := 415) (i := 0) dX12_init_415 rfl rfl ?_
  refine r_sipush (pc := 416) (v := 130) dX12_init_416 (by decide) ?_
  obtain ⟨y11, y12, h⟩ := h
  refine r_newIV (pc := 419) (n := 130) dX12_init_419 (by decide) (by decide) (by decide) y11 y12 (fun n8 M9 enn8 eMn8 e10 => ?_)
  replace h := h n8 enn8 M9 eMn8
  obtain ⟨k13, h⟩ := h
  refine r_putr (pc := 421) (r := some _) flX12_158 dX12_init_421 rfl (fun q hq => by cases hq; exact Or.inr ⟨rfl, rfl, rfl⟩) (fun q hq _ => by cases hq; exact ww_1281) k13 ?_
  replace h := h _ rfl
  refine r_aload_n (pc := 424) (i := 0) dX12_init_424 rfl rfl ?_
  refine r_ldc (pc := 425) (v := 140400) dX12_init_425 ww_1206 ?_
  obtain ⟨y18, y19, h⟩ := h
  refine r_newIV (pc := 427) (n := 140400) dX12_init_427 (by decide) (by decide) (by decide) y18 y19 (fun n15 M16 enn15 eMn15 e17 => ?_)
  replace h := h n15 enn15 M16 eMn15
  obtain ⟨k20, h⟩ := h
  refine r_putr (pc := 429) (r := some _) flX12_162 dX12_init_429 rfl (fun q hq => by cases hq; exact Or.inr ⟨rfl, rfl, rfl⟩) (fun q hq _ => by cases hq; exact ww_1282) k20 ?_
  replace h := h _ rfl
  refine r_aload_n (pc := 432) (i := 0) dX12_init_432 rfl rfl ?_
  refine r_sipush (pc := 433) (v := 5200) dX12_init_433 (by decide) ?_
  obtain ⟨y25, y26, h⟩ := h
  refine r_newZV (pc := 436) (n := 5200) dX12_init_436 (by decide) (by decide) (by decide) y25 y26 (fun n22 M23 enn22 eMn22 e24 => ?_)
  replace h := h n22 enn22 M23 eMn22
  obtain ⟨k27, h⟩ := h
  refine r_putr (pc := 438) (r := some _) flX12_165 dX12_init_438 rfl (fun q hq => by cases hq; exact Or.inr ⟨rfl, rfl, rfl⟩) (fun q hq _ => by cases hq; exact ww_1283) k27 ?_
  replace h := h _ rfl
  refine r_aload_n (pc := 441) (i := 0) dX12_init_441 rfl rfl ?_
  refine r_sipush (pc := 442) (v := 302) dX12_init_442 (by decide) ?_
  obtain ⟨y32, y33, h⟩ := h
  refine r_newJV (pc := 445) (n := 302) dX12_init_445 (by decide) (by decide) (by decide) y32 y33 (fun n29 M30 enn29 eMn29 e31 => ?_)
  replace h := h n29 enn29 M30 eMn29
  obtain ⟨k34, h⟩ := h
  refine r_putr (pc := 447) (r := some _) flX12_168 dX12_init_447 rfl (fun q hq => by cases hq; exact Or.inr ⟨rfl, rfl, rfl⟩) (fun q hq _ => by cases hq; exact ww_1284) k34 ?_
  replace h := h _ rfl
  refine r_aload_n (pc := 450) (i := 0) dX12_init_450 rfl rfl ?_
  refine r_sipush (pc := 451) (v := 8400) dX12_init_451 (by decide) ?_
  obtain ⟨y39, y40, h⟩ := h
  refine r_newIV (pc := 454) (n := 8400) dX12_init_454 (by decide) (by decide) (by decide) y39 y40 (fun n36 M37 enn36 eMn36 e38 => ?_)
  replace h := h n36 enn36 M37 eMn36
  obtain ⟨k41, h⟩ := h
  refine r_putr (pc := 456) (r := some _) flX12_172 dX12_init_456 rfl (fun q hq => by cases hq; exact Or.inr ⟨rfl, rfl, rfl⟩) (fun q hq _ => by cases hq; exact ww_1285) k41 ?_
  replace h := h _ rfl
  refine r_aload_n (pc := 459) (i := 0) dX12_init_459 rfl rfl ?_
  refine r_sipush (pc := 460) (v := 2160) dX12_init_460 (by decide) ?_
  obtain ⟨y46, y47, h⟩ := h
  refine r_newIV (pc := 463) (n := 2160) dX12_init_463 (by decide) (by decide) (by decide) y46 y47 (fun n43 M44 enn43 eMn43 e45 => ?_)
  replace h := h n43 enn43 M44 eMn43
  obtain ⟨k48, h⟩ := h
  refine r_putr (pc := 465) (r := some _) flX12_175 dX12_init_465 rfl (fun q hq => by cases hq; exact Or.inr ⟨rfl, rfl, rfl⟩) (fun q hq _ => by cases hq; exact ww_1287) k48 ?_
  replace h := h _ rfl
  refine r_aload_n (pc := 468) (i := 0) dX12_init_468 rfl rfl ?_
  refine r_bipush (pc := 469) (v := 80) dX12_init_469 (by decide) ?_
  obtain ⟨y53, y54, h⟩ := h
  refine r_newIV (pc := 471) (n := 80) dX12_init_471 (by decide) (by decide) (by decide) y53 y54 (fun n50 M51 enn50 eMn50 e52 => ?_)
  replace h := h n50 enn50 M51 eMn50
  obtain ⟨k55, h⟩ := h
  refine r_putr (pc := 473) (r := some _) flX12_178 dX12_init_473 rfl (fun q hq => by cases hq; exact Or.inr ⟨rfl, rfl, rfl⟩) (fun q hq _ => by cases hq; exact ww_1288) k55 ?_
  replace h := h _ rfl
  exact h
theorem vX12_init_476 {G : GG} {d rc rs : Nat} (p0 : Nat)  {M : Mem} {Q : Option Value → Mem → Prop} (h : 1 ≤ rc ∧ 2 ≤ rs ∧ (∀ n1, n1 = g_b G + x_n M → ∀ M2, M2 = x_new M n1 1 2 → (x_h M2 p0).1 = 28 ∧ (∀ M7, M7 = x_sr M2 p0 82 (some n1) → 1 ≤ (rc - 1) ∧ 33600 ≤ (rs - 2) ∧ (∀ n8, n8 = g_b G + x_n M7 → ∀ M9, M9 = x_new M7 n8 1 33600 → (x_h M9 p0).1 = 28 ∧ (∀ M14, M14 = x_sr M9 p0 83 (some n8) → 1 ≤ ((rc - 1) - 1) ∧ 4 ≤ ((rs - 2) - 33600) ∧ (∀ n15, n15 = g_b G + x_n M14 → ∀ M16, M16 = x_new M14 n15 1 4 → (x_h M16 p0).1 = 28 ∧ (∀ M21, M21 = x_sr M16 p0 84 (some n15) → 1 ≤ (((rc - 1) - 1) - 1) ∧ 330 ≤ (((rs - 2) - 33600) - 4) ∧ (∀ n22, n22 = g_b G + x_n M21 → ∀ M23, M23 = x_new M21 n22 1 330 → (x_h M23 p0).1 = 28 ∧ (∀ M28, M28 = x_sr M23 p0 85 (some n22) → 1 ≤ ((((rc - 1) - 1) - 1) - 1) ∧ 8400 ≤ ((((rs - 2) - 33600) - 4) - 330) ∧ (∀ n29, n29 = g_b G + x_n M28 → ∀ M30, M30 = x_new M28 n29 2 8400 → (x_h M30 p0).1 = 28 ∧ (∀ M35, M35 = x_sr M30 p0 86 (some n29) → 1 ≤ (((((rc - 1) - 1) - 1) - 1) - 1) ∧ 4440 ≤ (((((rs - 2) - 33600) - 4) - 330) - 8400) ∧ (∀ n36, n36 = g_b G + x_n M35 → ∀ M37, M37 = x_new M35 n36 3 4440 → (x_h M37 p0).1 = 28 ∧ (∀ M42, M42 = x_sr M37 p0 87 (some n36) → 1 ≤ ((((((rc - 1) - 1) - 1) - 1) - 1) - 1) ∧ 111 ≤ ((((((rs - 2) - 33600) - 4) - 330) - 8400) - 4440) ∧ (∀ n43, n43 = g_b G + x_n M42 → ∀ M44, M44 = x_new M42 n43 1 111 → (x_h M44 p0).1 = 28 ∧ (∀ M49, M49 = x_sr M44 p0 88 (some n43) → 1 ≤ (((((((rc - 1) - 1) - 1) - 1) - 1) - 1) - 1) ∧ 40 ≤ (((((((rs - 2) - 33600) - 4) - 330) - 8400) - 4440) - 111) ∧ (∀ n50, n50 = g_b G + x_n M49 → ∀ M51, M51 = x_new M49 n50 2 40 → (x_h M51 p0).1 = 28 ∧ (∀ M56, M56 = x_sr M51 p0 89 (some n50) → LX12_init_541 G d ((((((((rc - 1) - 1) - 1) - 1) - 1) - 1) - 1) - 1) ((((((((rs - 2) - 33600) - 4) - 330) - 8400) - 4440) - 111) - 40) p0 M56 Q))))))))))))))))) : LX12_init_476 G d rc rs p0 M Q := by
  show Wk G (d + 1) rc rs mX12_init 476 _ _ M Q
  refine r_aload_n (pc := 476) (i := 0) dX12_init_476 rfl rfl ?_
  refine r_iconst (pc := 477) (v := 2) dX12_init_477 (by decide) ?_
  obtain ⟨y4, y5, h⟩ := h
  refine r_newIV (pc := 478) (n := 2) dX12_init_478 (by decide) (by decide) (by decide) y4 y5 (fun n1 M2 enn1 eMn1 e3 => ?_)
  replace h := h n1 enn1 M2 eMn1
  obtain ⟨k6, h⟩ := h
  refine r_putr (pc := 480) (r := some _) flX12_181 dX12_init_480 rfl (fun q hq => by cases hq; exact Or.inr ⟨rfl, rfl, rfl⟩) (fun q hq _ => by cases hq; exact ww_1289) k6 ?_
  replace h := h _ rfl
  refine r_aload_n (pc := 483) (i := 0) dX12_init_483 rfl rfl ?_
  refine r_ldc (pc := 484) (v := 33600) dX12_init_484 ww_1207 ?_
  obtain ⟨y11, y12, h⟩ := h
  refine r_newIV (pc := 486) (n := 33600) dX12_init_486 (by decide) (by decide) (by decide) y11 y12 (fun n8 M9 enn8 eMn8 e10 => ?_)
  replace h := h n8 enn8 M9 eMn8
  obtain ⟨k13, h⟩ := h
  refine r_putr (pc := 488) (r := some _) flX12_185 dX12_init_488 rfl (fun q hq => by cases hq; exact Or.inr ⟨rfl, rfl, rfl⟩) (fun q hq _ => by cases hq; exact ww_1290) k13 ?_
  replace h := h _ rfl
  refine r_aload_n (pc := 491) (i := 0) dX12_init_491 rfl rfl ?_
  refine r_iconst (pc := 492) (v := 4) dX12_init_492 (by decide) ?_
  obtain ⟨y18, y19, h⟩ := h
  refine r_newIV (pc := 493) (n := 4) dX12_init_493 (by decide) (by decide) (by decide) y18 y19 (fun n15 M16 enn15 eMn15 e17 => ?_)
  replace h := h n15 enn15 M16 eMn15
  obtain ⟨k20, h⟩ := h
  refine r_putr (pc := 495) (r := some _) flX12_188 dX12_init_495 rfl (fun q hq => by cases hq; exact Or.inr ⟨rfl, rfl, rfl⟩) (fun q hq _ => by cases hq; exact ww_1291) k20 ?_
  replace h := h _ rfl
  refine r_aload_n (pc := 498) (i := 0) dX12_init_498 rfl rfl ?_
  refine r_sipush (pc := 499) (v := 330) dX12_init_499 (by decide) ?_
  obtain ⟨y25, y26, h⟩ := h
  refine r_newIV (pc := 502) (n := 330) dX12_init_502 (by decide) (by decide) (by decide) y25 y26 (fun n22 M23 enn22 eMn22 e24 => ?_)
  replace h := h n22 enn22 M23 eMn22
  obtain ⟨k27, h⟩ := h
  refine r_putr (pc := 504) (r := some _) flX12_191 dX12_init_504 rfl (fun q hq => by cases hq; exact Or.inr ⟨rfl, rfl, rfl⟩) (fun q hq _ => by cases hq; exact ww_1292) k27 ?_
  replace h := h _ rfl
  refine r_aload_n (pc := 507) (i := 0) dX12_init_507 rfl rfl ?_
  refine r_sipush (pc := 508) (v := 8400) dX12_init_508 (by decide) ?_
  obtain ⟨y32, y33, h⟩ := h
  refine r_newJV (pc := 511) (n := 8400) dX12_init_511 (by decide) (by decide) (by decide) y32 y33 (fun n29 M30 enn29 eMn29 e31 => ?_)
  replace h := h n29 enn29 M30 eMn29
  obtain ⟨k34, h⟩ := h
  refine r_putr (pc := 513) (r := some _) flX12_194 dX12_init_513 rfl (fun q hq => by cases hq; exact Or.inr ⟨rfl, rfl, rfl⟩) (fun q hq _ => by cases hq; exact ww_1293) k34 ?_
  replace h := h _ rfl
  refine r_aload_n (pc := 516) (i := 0) dX12_init_516 rfl rfl ?_
  refine r_sipush (pc := 517) (v := 4440) dX12_init_517 (by decide) ?_
  obtain ⟨y39, y40, h⟩ := h
  refine r_newZV (pc := 520) (n := 4440) dX12_init_520 (by decide) (by decide) (by decide) y39 y40 (fun n36 M37 enn36 eMn36 e38 => ?_)
  replace h := h n36 enn36 M37 eMn36
  obtain ⟨k41, h⟩ := h
  refine r_putr (pc := 522) (r := some _) flX12_197 dX12_init_522 rfl (fun q hq => by cases hq; exact Or.inr ⟨rfl, rfl, rfl⟩) (fun q hq _ => by cases hq; exact ww_1294) k41 ?_
  replace h := h _ rfl
  refine r_aload_n (pc := 525) (i := 0) dX12_init_525 rfl rfl ?_
  refine r_bipush (pc := 526) (v := 111) dX12_init_526 (by decide) ?_
  obtain ⟨y46, y47, h⟩ := h
  refine r_newIV (pc := 528) (n := 111) dX12_init_528 (by decide) (by decide) (by decide) y46 y47 (fun n43 M44 enn43 eMn43 e45 => ?_)
  replace h := h n43 enn43 M44 eMn43
  obtain ⟨k48, h⟩ := h
  refine r_putr (pc := 530) (r := some _) flX12_200 dX12_init_530 rfl (fun q hq => by cases hq; exact Or.inr ⟨rfl, rfl, rfl⟩) (fun q hq _ => by cases hq; exact ww_1295) k48 ?_
  replace h := h _ rfl
  refine r_aload_n (pc := 533) (i := 0) dX12_init_533 rfl rfl ?_
  refine r_bipush (pc := 534) (v := 40) dX12_init_534 (by decide) ?_
  obtain ⟨y53, y54, h⟩ := h
  refine r_newJV (pc := 536) (n := 40) dX12_init_536 (by decide) (by decide) (by decide) y53 y54 (fun n50 M51 enn50 eMn50 e52 => ?_)
  replace h := h n50 enn50 M51 eMn50
  obtain ⟨k55, h⟩ := h
  refine r_putr (pc := 538) (r := some _) flX12_203 dX12_init_538 rfl (fun q hq => by cases hq; exact Or.inr ⟨rfl, rfl, rfl⟩) (fun q hq _ => by cases hq; exact ww_1296) k55 ?_
  replace h := h _ rfl
  exact h
theorem vX12_init_541 {G : GG} {d rc rs : Nat} (p0 : Nat)  {M : Mem} {Q : Option Value → Mem → Prop} (h : 1 ≤ rc ∧ 40 ≤ rs ∧ (∀ n1, n1 = g_b G + x_n M → ∀ M2, M2 = x_new M n1 2 40 → (x_h M2 p0).1 = 28 ∧ (∀ M7, M7 = x_sr M2 p0 90 (some n1) → 1 ≤ (rc - 1) ∧ 40 ≤ (rs - 40) ∧ (∀ n8, n8 = g_b G + x_n M7 → ∀ M9, M9 = x_new M7 n8 3 40 → (x_h M9 p0).1 = 28 ∧ (∀ M14, M14 = x_sr M9 p0 91 (some n8) → LX12_init_559 G d ((rc - 1) - 1) ((rs - 40) - 40) p0 0 M14 Q))))) : LX12_init_541 G d rc rs p0 M Q := by
  show Wk G (d + 1) rc rs mX12_init 541 _ _ M Q
  refine r_aload_n (pc := 541) (i := 0) dX12_init_541 rfl rfl ?_
  refine r_bipush (pc := 542) (v := 40) dX12_init_542 (by decide) ?_
  obtain ⟨y4, y5, h⟩ := h
  refine r_newJV (pc := 544) (n := 40) dX12_init_544 (by decide) (by decide) (by decide) y4 y5 (fun n1 M2 enn1 eMn1 e3 => ?_)
  replace h := h n1 enn1 M2 eMn1
  obtain ⟨k6, h⟩ := h
  refine r_putr (pc := 546) (r := some _) flX12_206 dX12_init_546 rfl (fun q hq => by cases hq; exact Or.inr ⟨rfl, rfl, rfl⟩) (fun q hq _ => by cases hq; exact ww_1297) k6 ?_
  replace h := h _ rfl
  refine r_aload_n (pc := 549) (i := 0) dX12_init_549 rfl rfl ?_
  refine r_bipush (pc := 550) (v := 40) dX12_init_550 (by decide) ?_
  obtain ⟨y11, y12, h⟩ := h
  refine r_newZV (pc := 552) (n := 40) dX12_init_552 (by decide) (by decide) (by decide) y11 y12 (fun n8 M9 enn8 eMn8 e10 => ?_)
  replace h := h n8 enn8 M9 eMn8
  obtain ⟨k13, h⟩ := h
  refine r_putr (pc := 554) (r := some _) flX12_209 dX12_init_554 rfl (fun q hq => by cases hq; exact Or.inr ⟨rfl, rfl, rfl⟩) (fun q hq _ => by cases hq; exact ww_1298) k13 ?_
  replace h := h _ rfl
  refine r_iconst (pc := 557) (v := 0) dX12_init_557 (by decide) ?_
  refine r_istore_n (pc := 558) (i := 1) dX12_init_558 rfl rfl (Nat.le_of_ble_eq_true rfl) ?_
  exact h
theorem vX12_init_559 {G : GG} {d rc rs : Nat} (p0 : Nat) (x1 : Int32)  {M : Mem} {Q : Option Value → Mem → Prop} (h : (6 ≤ x1 → Q none M) ∧ (¬ 6 ≤ x1 → (x_h M p0).1 = 28 ∧ (∃ b3, x_r M p0 19 = some b3 ∧ (x_h M b3).1 = 1 ∧ vp_in x1 (x_h M b3).2 ∧ (∀ M6, M6 = x_si M b3 x1.toNatClampNeg (-1) → LX12_init_559 G d rc rs p0 (x1 + 1) M6 Q)))) : LX12_init_559 G d rc rs p0 x1 M Q := by
  show Wk G (d + 1) rc rs mX12_init 559 _ _ M Q
  refine r_iload_n (pc := 559) (i := 1) dX12_init_559 rfl rfl ?_
  refine r_bipush (pc := 560) (v := 6) dX12_init_560 (by decide) ?_
  refine r_icmp_ge (pc := 562) (tgt := 578) dX12_init_562 (by decide) (fun c1 => ?_) (fun c1 => ?_)
  · replace h := h.1 c1
    exact r_vret (pc := 578) dX12_init_578 rfl h
  · replace h := h.2 c1
    refine r_aload_n (pc := 565) (i := 0) dX12_init_565 rfl rfl ?_
    obtain ⟨k2, h⟩ := h
    obtain ⟨b3, hb3, h⟩ := h
    refine r_getr (pc := 566) flX12_60 dX12_init_566 rfl k2 hb3 ?_
    refine r_iload_n (pc := 569) (i := 1) dX12_init_569 rfl rfl ?_
    refine r_iconst (pc := 570) (v := (-1)) dX12_init_570 (by decide) ?_
    obtain ⟨k4, h⟩ := h
    obtain ⟨i5, h⟩ := h
    refine r_iast (pc := 571) dX12_init_571 k4 i5 ?_
    replace h := h _ rfl
    refine r_iinc (pc := 572) (i := 1) (v := _ + 1) dX12_init_572 rfl rfl rfl ?_
    refine r_goto (pc := 575) (tgt := 559) dX12_init_575 (by decide) ?_
    exact h
theorem eX12_in {G : GG} {d rc rs : Nat} (a1 : Int32) (a2 : Int32) (a3 : Int32)  {M : Mem} {Q : Option Value → Mem → Prop} (h : (a1 < a2 → Q (some (.int 0)) M) ∧ (¬ a1 < a2 → (a3 < a1 → Q (some (.int 0)) M) ∧ (¬ a3 < a1 → Q (some (.int 1)) M))) : Call G (d + 1) rc rs mX12_in [.int a1, .int a2, .int a3] M Q := by
  refine call_of (by decide) (Nat.le_of_ble_eq_true rfl) ?_
  show Wk G (d + 1) rc rs mX12_in 0 [some (.int a1), some (.int a2), some (.int a3)] [] M Q
  refine r_iload_n (pc := 0) (i := 0) dX12_in_0 rfl rfl ?_
  refine r_iload_n (pc := 1) (i := 1) dX12_in_1 rfl rfl ?_
  refine r_icmp_lt (pc := 2) (tgt := 14) dX12_in_2 (by decide) (fun c1 => ?_) (fun c1 => ?_)
  · replace h := h.1 c1
    refine r_iconst (pc := 14) (v := 0) dX12_in_14 (by decide) ?_
    exact r_zret (pc := 15) dX12_in_15 rfl (Or.inl rfl) h
  · replace h := h.2 c1
    refine r_iload_n (pc := 5) (i := 0) dX12_in_5 rfl rfl ?_
    refine r_iload_n (pc := 6) (i := 2) dX12_in_6 rfl rfl ?_
    refine r_icmp_gt (pc := 7) (tgt := 14) dX12_in_7 (by decide) (fun c2 => ?_) (fun c2 => ?_)
    · replace h := h.1 c2
      refine r_iconst (pc := 14) (v := 0) dX12_in_14 (by decide) ?_
      exact r_zret (pc := 15) dX12_in_15 rfl (Or.inl rfl) h
    · replace h := h.2 c2
      refine r_iconst (pc := 10) (v := 1) dX12_in_10 (by decide) ?_
      refine r_goto (pc := 11) (tgt := 15) dX12_in_11 (by decide) ?_
      exact r_zret (pc := 15) dX12_in_15 rfl (Or.inr rfl) h
theorem eX12_refused {G : GG} {d rc rs : Nat} (o : Nat) (a1 : Int32)  {M : Mem} {Q : Option Value → Mem → Prop} (h : (x_h M o).1 = 28 ∧ (∀ M2, M2 = x_si M o 22 a1 → Q (some (.int (-1))) M2)) : Call G (d + 1) rc rs mX12_refused [.ref o, .int a1] M Q := by
  refine call_of (by decide) (Nat.le_of_ble_eq_true rfl) ?_
  show Wk G (d + 1) rc rs mX12_refused 0 [some (.ref o), some (.int a1)] [] M Q
  refine r_aload_n (pc := 0) (i := 0) dX12_refused_0 rfl rfl ?_
  refine r_iload_n (pc := 1) (i := 1) dX12_refused_1 rfl rfl ?_
  obtain ⟨k1, h⟩ := h
  refine r_puti (pc := 2) flX12_212 dX12_refused_2 (Or.inl rfl) (fun q hq => by cases hq; rfl) k1 ?_
  replace h := h _ rfl
  refine r_iconst (pc := 5) (v := (-1)) dX12_refused_5 (by decide) ?_
  exact r_iret (pc := 6) dX12_refused_6 rfl h
theorem eX12_done {G : GG} {d rc rs : Nat} (o : Nat) (a1 : Int32)  {M : Mem} {Q : Option Value → Mem → Prop} (h : (x_h M o).1 = 28 ∧ (∀ M2, M2 = x_si M o 22 0 → Q (some (.int a1)) M2)) : Call G (d + 1) rc rs mX12_done [.ref o, .int a1] M Q := by
  refine call_of (by decide) (Nat.le_of_ble_eq_true rfl) ?_
  show Wk G (d + 1) rc rs mX12_done 0 [some (.ref o), some (.int a1)] [] M Q
  refine r_aload_n (pc := 0) (i := 0) dX12_done_0 rfl rfl ?_
  refine r_iconst (pc := 1) (v := 0) dX12_done_1 (by decide) ?_
  obtain ⟨k1, h⟩ := h
  refine r_puti (pc := 2) flX12_212 dX12_done_2 (Or.inl rfl) (fun q hq => by cases hq; rfl) k1 ?_
  replace h := h _ rfl
  refine r_iload_n (pc := 5) (i := 1) dX12_done_5 rfl rfl ?_
  exact r_iret (pc := 6) dX12_done_6 rfl h
theorem eX12_isRow {G : GG} {d rc rs : Nat} (o : Nat) (a1 : Int32)  {M : Mem} {Q : Option Value → Mem → Prop} (h : (x_h M o).1 = 28 ∧ Call G d 0 0 mX12_in [.int a1, .int 0, .int ((x_i M o 1) - 1)] M (fun r2 M3 => ∃ v4 : Int32, r2 = some (.int v4) ∧ (v4 = 0 ∨ v4 = 1) ∧ Q (some (.int v4)) M3)) : Call G (d + 1) rc rs mX12_isRow [.ref o, .int a1] M Q := by
  refine call_of (by decide) (Nat.le_of_ble_eq_true rfl) ?_
  show Wk G (d + 1) rc rs mX12_isRow 0 [some (.ref o), some (.int a1)] [] M Q
  refine r_iload_n (pc := 0) (i := 1) dX12_isRow_0 rfl rfl ?_
  refine r_iconst (pc := 1) (v := 0) dX12_isRow_1 (by decide) ?_
  refine r_aload_n (pc := 2) (i := 0) dX12_isRow_2 rfl rfl ?_
  obtain ⟨k1, h⟩ := h
  refine r_geti (pc := 3) flX12_215 dX12_isRow_3 (Or.inl rfl) k1 ?_
  refine r_iconst (pc := 6) (v := 1) dX12_isRow_6 (by decide) ?_
  refine r_isub (pc := 7) dX12_isRow_7 ?_
  refine r_callS (pc := 8) (as := [_, _, _]) (st := []) okX12_in lkX12_218 stX12_in dX12_isRow_8 rfl (Nat.le_of_ble_eq_true rfl) (Nat.zero_le _) (Nat.zero_le _) (Call.mono h (fun r2 M3 h => ?_))
  obtain ⟨v4, rfl, h⟩ := h
  exact r_zret (pc := 11) dX12_isRow_11 rfl h.1 h.2
abbrev LX12_bits_4 (G : GG) (d rc rs : Nat) (x0 : Int32) (x1 : Int32) (x2 : Int32) (M : Mem) (Q : Option Value → Mem → Prop) : Prop := Wk G (d + 1) rc rs mX12_bits 4 [some (.int x0), some (.int x1), some (.int x2)] [] M Q
theorem eX12_bits {G : GG} {d rc rs : Nat} (a1 : Int32)  {M : Mem} {Q : Option Value → Mem → Prop} (h : LX12_bits_4 G d rc rs a1 0 0 M Q) : Call G (d + 1) rc rs mX12_bits [.int a1] M Q := by
  refine call_of (by decide) (Nat.le_of_ble_eq_true rfl) ?_
  show Wk G (d + 1) rc rs mX12_bits 0 [some (.int a1), none, none] [] M Q
  refine r_iconst (pc := 0) (v := 0) dX12_bits_0 (by decide) ?_
  refine r_istore_n (pc := 1) (i := 1) dX12_bits_1 rfl rfl (Nat.le_of_ble_eq_true rfl) ?_
  refine r_iconst (pc := 2) (v := 0) dX12_bits_2 (by decide) ?_
  refine r_istore_n (pc := 3) (i := 2) dX12_bits_3 rfl rfl (Nat.le_of_ble_eq_true rfl) ?_
  exact h
theorem vX12_bits_4 {G : GG} {d rc rs : Nat} (x0 : Int32) (x1 : Int32) (x2 : Int32)  {M : Mem} {Q : Option Value → Mem → Prop} (h : (10 ≤ x2 → Q (some (.int x1)) M) ∧ (¬ 10 ≤ x2 → LX12_bits_4 G d rc rs x0 (x1 + ((x0 >>> (x2 &&& 31)) &&& 1)) (x2 + 1) M Q)) : LX12_bits_4 G d rc rs x0 x1 x2 M Q := by
  show Wk G (d + 1) rc rs mX12_bits 4 _ _ M Q
  refine r_iload_n (pc := 4) (i := 2) dX12_bits_4 rfl rfl ?_
  refine r_bipush (pc := 5) (v := 10) dX12_bits_5 (by decide) ?_
  refine r_icmp_ge (pc := 7) (tgt := 24) dX12_bits_7 (by decide) (fun c1 => ?_) (fun c1 => ?_)
  · replace h := h.1 c1
    refine r_iload_n (pc := 24) (i := 1) dX12_bits_24 rfl rfl ?_
    exact r_iret (pc := 25) dX12_bits_25 rfl h
  · replace h := h.2 c1
    refine r_iload_n (pc := 10) (i := 1) dX12_bits_10 rfl rfl ?_
    refine r_iload_n (pc := 11) (i := 0) dX12_bits_11 rfl rfl ?_
    refine r_iload_n (pc := 12) (i := 2) dX12_bits_12 rfl rfl ?_
    refine r_ishr (pc := 13) dX12_bits_13 ?_
    refine r_iconst (pc := 14) (v := 1) dX12_bits_14 (by decide) ?_
    refine r_iand (pc := 15) dX12_bits_15 ?_
    refine r_iadd (pc := 16) dX12_bits_16 ?_
    refine r_istore_n (pc := 17) (i := 1) dX12_bits_17 rfl rfl (Nat.le_of_ble_eq_true rfl) ?_
    refine r_iinc (pc := 18) (i := 2) (v := _ + 1) dX12_bits_18 rfl rfl rfl ?_
    refine r_goto (pc := 21) (tgt := 4) dX12_bits_21 (by decide) ?_
    exact h
abbrev LX12_across_4 (G : GG) (d rc rs : Nat) (p0 : Nat) (x1 : Int32) (x2 : Int32) (x3 : Int32) (M : Mem) (Q : Option Value → Mem → Prop) : Prop := Wk G (d + 1) rc rs mX12_across 4 [some (.ref p0), some (.int x1), some (.int x2), some (.int x3)] [] M Q
theorem eX12_across {G : GG} {d rc rs : Nat} (o : Nat) (a1 : Int32)  {M : Mem} {Q : Option Value → Mem → Prop} (h : LX12_across_4 G d rc rs o a1 1 0 M Q) : Call G (d + 1) rc rs mX12_across [.ref o, .int a1] M Q := by
  refine call_of (by decide) (Nat.le_of_ble_eq_true rfl) ?_
  show Wk G (d + 1) rc rs mX12_across 0 [some (.ref o), some (.int a1), none, none] [] M Q
  refine r_iconst (pc := 0) (v := 1) dX12_across_0 (by decide) ?_
  refine r_istore_n (pc := 1) (i := 2) dX12_across_1 rfl rfl (Nat.le_of_ble_eq_true rfl) ?_
  refine r_iconst (pc := 2) (v := 0) dX12_across_2 (by decide) ?_
  refine r_istore_n (pc := 3) (i := 3) dX12_across_3 rfl rfl (Nat.le_of_ble_eq_true rfl) ?_
  exact h
theorem vX12_across_4 {G : GG} {d rc rs : Nat} (p0 : Nat) (x1 : Int32) (x2 : Int32) (x3 : Int32)  {M : Mem} {Q : Option Value → Mem → Prop} (h : Call G d 0 0 mX12_bits [.int x1] M (fun r1 M2 => ∃ v3 : Int32, r1 = some (.int v3) ∧ (v3 ≤ x3 → Q (some (.int x2)) M2) ∧ (¬ v3 ≤ x3 → (x_h M2 p0).1 = 28 ∧ LX12_across_4 G d rc rs p0 x1 (x2 * (x_i M2 p0 0)) (x3 + 1) M2 Q))) : LX12_across_4 G d rc rs p0 x1 x2 x3 M Q := by
  show Wk G (d + 1) rc rs mX12_across 4 _ _ M Q
  refine r_iload_n (pc := 4) (i := 3) dX12_across_4 rfl rfl ?_
  refine r_iload_n (pc := 5) (i := 1) dX12_across_5 rfl rfl ?_
  refine r_callS (pc := 6) (as := [_]) (st := [_]) okX12_bits lkX12_222 stX12_bits dX12_across_6 rfl (Nat.le_of_ble_eq_true rfl) (Nat.zero_le _) (Nat.zero_le _) (Call.mono h (fun r1 M2 h => ?_))
  obtain ⟨v3, rfl, h⟩ := h
  refine r_icmp_ge (pc := 9) (tgt := 25) dX12_across_9 (by decide) (fun c4 => ?_) (fun c4 => ?_)
  · replace h := h.1 c4
    refine r_iload_n (pc := 25) (i := 2) dX12_across_25 rfl rfl ?_
    exact r_iret (pc := 26) dX12_across_26 rfl h
  · replace h := h.2 c4
    refine r_iload_n (pc := 12) (i := 2) dX12_across_12 rfl rfl ?_
    refine r_aload_n (pc := 13) (i := 0) dX12_across_13 rfl rfl ?_
    obtain ⟨k5, h⟩ := h
    refine r_geti (pc := 14) flX12_7 dX12_across_14 (Or.inl rfl) k5 ?_
    refine r_imul (pc := 17) dX12_across_17 ?_
    refine r_istore_n (pc := 18) (i := 2) dX12_across_18 rfl rfl (Nat.le_of_ble_eq_true rfl) ?_
    refine r_iinc (pc := 19) (i := 3) (v := _ + 1) dX12_across_19 rfl rfl rfl ?_
    refine r_goto (pc := 22) (tgt := 4) dX12_across_22 (by decide) ?_
    exact h
abbrev LX12_isAlike_24 (G : GG) (d rc rs : Nat) (p0 : Nat) (x1 : Int32) (x2 : Int32) (x3 : Int32) (x4 : Int32) (M : Mem) (Q : Option Value → Mem → Prop) : Prop := Wk G (d + 1) rc rs mX12_isAlike 24 [some (.ref p0), some (.int x1), some (.int x2), some (.int x3), some (.int x4)] [] M Q
theorem eX12_isAlike {G : GG} {d rc rs : Nat} (o : Nat) (a1 : Int32) (a2 : Int32)  {M : Mem} {Q : Option Value → Mem → Prop} (h : (x_h M o).1 = 28 ∧ (∃ b2, x_r M o 31 = some b2 ∧ (x_h M b2).1 = 1 ∧ vp_in a1 (x_h M b2).2 ∧ vp_in a2 (x_h M b2).2 ∧ (¬ (x_i M b2 a1.toNatClampNeg) = (x_i M b2 a2.toNatClampNeg) → LX12_isAlike_24 G d rc rs o a1 a2 0 0 M Q) ∧ ((x_i M b2 a1.toNatClampNeg) = (x_i M b2 a2.toNatClampNeg) → LX12_isAlike_24 G d rc rs o a1 a2 1 0 M Q))) : Call G (d + 1) rc rs mX12_isAlike [.ref o, .int a1, .int a2] M Q := by
  refine call_of (by decide) (Nat.le_of_ble_eq_true rfl) ?_
  show Wk G (d + 1) rc rs mX12_isAlike 0 [some (.ref o), some (.int a1), some (.int a2), none, none] [] M Q
  refine r_aload_n (pc := 0) (i := 0) dX12_isAlike_0 rfl rfl ?_
  obtain ⟨k1, h⟩ := h
  obtain ⟨b2, hb2, h⟩ := h
  refine r_getr (pc := 1) flX12_82 dX12_isAlike_1 rfl k1 hb2 ?_
  refine r_iload_n (pc := 4) (i := 1) dX12_isAlike_4 rfl rfl ?_
  obtain ⟨k3, h⟩ := h
  obtain ⟨i4, h⟩ := h
  refine r_iald (pc := 5) dX12_isAlike_5 k3 i4 ?_
  refine r_aload_n (pc := 6) (i := 0) dX12_isAlike_6 rfl rfl ?_
  refine r_getr (pc := 7) flX12_82 dX12_isAlike_7 rfl k1 hb2 ?_
  refine r_iload_n (pc := 10) (i := 2) dX12_isAlike_10 rfl rfl ?_
  obtain ⟨i5, h⟩ := h
  refine r_iald (pc := 11) dX12_isAlike_11 k3 i5 ?_
  refine r_icmp_ne (pc := 12) (tgt := 19) dX12_isAlike_12 (by decide) (fun c6 => ?_) (fun c6 => ?_)
  · replace h := h.1 c6
    refine r_iconst (pc := 19) (v := 0) dX12_isAlike_19 (by decide) ?_
    refine r_istore_n (pc := 20) (i := 3) dX12_isAlike_20 rfl rfl (Nat.le_of_ble_eq_true rfl) ?_
    refine r_iconst (pc := 21) (v := 0) dX12_isAlike_21 (by decide) ?_
    refine r_istore (pc := 22) (i := 4) dX12_isAlike_22 rfl (Nat.le_of_ble_eq_true rfl) ?_
    exact h
  · replace h := h.2 c6
    refine r_iconst (pc := 15) (v := 1) dX12_isAlike_15 (by decide) ?_
    refine r_goto (pc := 16) (tgt := 20) dX12_isAlike_16 (by decide) ?_
    refine r_istore_n (pc := 20) (i := 3) dX12_isAlike_20 rfl rfl (Nat.le_of_ble_eq_true rfl) ?_
    refine r_iconst (pc := 21) (v := 0) dX12_isAlike_21 (by decide) ?_
    refine r_istore (pc := 22) (i := 4) dX12_isAlike_22 rfl (Nat.le_of_ble_eq_true rfl) ?_
    exact h
theorem vX12_isAlike_24 {G : GG} {d rc rs : Nat} (p0 : Nat) (x1 : Int32) (x2 : Int32) (x3 : Int32) (x4 : Int32)  {M : Mem} {Q : Option Value → Mem → Prop} (h : (x3 = 0 → (x3 = 0 ∨ x3 = 1) ∧ Q (some (.int x3)) M) ∧ (¬ x3 = 0 → (x_h M p0).1 = 28 ∧ ((x_i M p0 26) ≤ x4 → (x3 = 0 ∨ x3 = 1) ∧ Q (some (.int x3)) M) ∧ (¬ (x_i M p0 26) ≤ x4 → ∃ b4, x_r M p0 31 = some b4 ∧ ∃ b5, x_r M p0 27 = some b5 ∧ (x_h M b5).1 = 1 ∧ vp_in ((27 * x1) + x4) (x_h M b5).2 ∧ (x_h M b4).1 = 1 ∧ vp_in (x_i M b5 ((27 * x1) + x4).toNatClampNeg) (x_h M b4).2 ∧ vp_in ((27 * x2) + x4) (x_h M b5).2 ∧ vp_in (x_i M b5 ((27 * x2) + x4).toNatClampNeg) (x_h M b4).2 ∧ (¬ (x_i M b4 (x_i M b5 ((27 * x1) + x4).toNatClampNeg).toNatClampNeg) = (x_i M b4 (x_i M b5 ((27 * x2) + x4).toNatClampNeg).toNatClampNeg) → LX12_isAlike_24 G d rc rs p0 x1 x2 0 (x4 + 1) M Q) ∧ ((x_i M b4 (x_i M b5 ((27 * x1) + x4).toNatClampNeg).toNatClampNeg) = (x_i M b4 (x_i M b5 ((27 * x2) + x4).toNatClampNeg).toNatClampNeg) → LX12_isAlike_24 G d rc rs p0 x1 x2 1 (x4 + 1) M Q)))) : LX12_isAlike_24 G d rc rs p0 x1 x2 x3 x4 M Q := by
  show Wk G (d + 1) rc rs mX12_isAlike 24 _ _ M Q
  refine r_iload_n (pc := 24) (i := 3) dX12_isAlike_24 rfl rfl ?_
  refine r_if_eq (pc := 25) (tgt := 86) dX12_isAlike_25 (by decide) (fun c1 => ?_) (fun c1 => ?_)
  · replace h := h.1 c1
    refine r_iload_n (pc := 86) (i := 3) dX12_isAlike_86 rfl rfl ?_
    exact r_zret (pc := 87) dX12_isAlike_87 rfl h.1 h.2
  · replace h := h.2 c1
    refine r_iload (pc := 28) (i := 4) dX12_isAlike_28 rfl ?_
    refine r_aload_n (pc := 30) (i := 0) dX12_isAlike_30 rfl rfl ?_
    obtain ⟨k2, h⟩ := h
    refine r_geti (pc := 31) flX12_226 dX12_isAlike_31 (Or.inl rfl) k2 ?_
    refine r_icmp_ge (pc := 34) (tgt := 86) dX12_isAlike_34 (by decide) (fun c3 => ?_) (fun c3 => ?_)
    · replace h := h.1 c3
      refine r_iload_n (pc := 86) (i := 3) dX12_isAlike_86 rfl rfl ?_
      exact r_zret (pc := 87) dX12_isAlike_87 rfl h.1 h.2
    · replace h := h.2 c3
      refine r_aload_n (pc := 37) (i := 0) dX12_isAlike_37 rfl rfl ?_
      obtain ⟨b4, hb4, h⟩ := h
      refine r_getr (pc := 38) flX12_82 dX12_isAlike_38 rfl k2 hb4 ?_
      refine r_aload_n (pc := 41) (i := 0) dX12_isAlike_41 rfl rfl ?_
      obtain ⟨b5, hb5, h⟩ := h
      refine r_getr (pc := 42) flX12_73 dX12_isAlike_42 rfl k2 hb5 ?_
      refine r_bipush (pc := 45) (v := 27) dX12_isAlike_45 (by decide) ?_
      refine r_iload_n (pc := 47) (i := 1) dX12_isAlike_47 rfl rfl ?_
      refine r_imul (pc := 48) dX12_isAlike_48 ?_
      refine r_iload (pc := 49) (i := 4) dX12_isAlike_49 rfl ?_
      refine r_iadd (pc := 51) dX12_isAlike_51 ?_
      obtain ⟨k6, h⟩ := h
      obtain ⟨i7, h⟩ := h
      refine r_iald (pc := 52) dX12_isAlike_52 k6 i7 ?_
      obtain ⟨k8, h⟩ := h
      obtain ⟨i9, h⟩ := h
      refine r_iald (pc := 53) dX12_isAlike_53 k8 i9 ?_
      refine r_aload_n (pc := 54) (i := 0) dX12_isAlike_54 rfl rfl ?_
      refine r_getr (pc := 55) flX12_82 dX12_isAlike_55 rfl k2 hb4 ?_
      refine r_aload_n (pc := 58) (i := 0) dX12_isAlike_58 rfl rfl ?_
      refine r_getr (pc := 59) flX12_73 dX12_isAlike_59 rfl k2 hb5 ?_
      refine r_bipush (pc := 62) (v := 27) dX12_isAlike_62 (by decide) ?_
      refine r_iload_n (pc := 64) (i := 2) dX12_isAlike_64 rfl rfl ?_
      refine r_imul (pc := 65) dX12_isAlike_65 ?_
      refine r_iload (pc := 66) (i := 4) dX12_isAlike_66 rfl ?_
      refine r_iadd (pc := 68) dX12_isAlike_68 ?_
      obtain ⟨i10, h⟩ := h
      refine r_iald (pc := 69) dX12_isAlike_69 k6 i10 ?_
      obtain ⟨i11, h⟩ := h
      refine r_iald (pc := 70) dX12_isAlike_70 k8 i11 ?_
      refine r_icmp_ne (pc := 71) (tgt := 78) dX12_isAlike_71 (by decide) (fun c12 => ?_) (fun c12 => ?_)
      · replace h := h.1 c12
        refine r_iconst (pc := 78) (v := 0) dX12_isAlike_78 (by decide) ?_
        refine r_istore_n (pc := 79) (i := 3) dX12_isAlike_79 rfl rfl (Nat.le_of_ble_eq_true rfl) ?_
        refine r_iinc (pc := 80) (i := 4) (v := _ + 1) dX12_isAlike_80 rfl rfl rfl ?_
        refine r_goto (pc := 83) (tgt := 24) dX12_isAlike_83 (by decide) ?_
        exact h
      · replace h := h.2 c12
        refine r_iconst (pc := 74) (v := 1) dX12_isAlike_74 (by decide) ?_
        refine r_goto (pc := 75) (tgt := 79) dX12_isAlike_75 (by decide) ?_
        refine r_istore_n (pc := 79) (i := 3) dX12_isAlike_79 rfl rfl (Nat.le_of_ble_eq_true rfl) ?_
        refine r_iinc (pc := 80) (i := 4) (v := _ + 1) dX12_isAlike_80 rfl rfl rfl ?_
        refine r_goto (pc := 83) (tgt := 24) dX12_isAlike_83 (by decide) ?_
        exact h
abbrev LX12_place_9 (G : GG) (d rc rs : Nat) (p0 : Nat) (x1 : Int32) (x2 : Int32) (x3 : Int32) (M : Mem) (Q : Option Value → Mem → Prop) : Prop := Wk G (d + 1) rc rs mX12_place 9 [some (.ref p0), some (.int x1), some (.int x2), some (.int x3)] [] M Q
abbrev LX12_place_57 (G : GG) (d rc rs : Nat) (p0 : Nat) (x1 : Int32) (x2 : Int32) (x3 : Int32) (M : Mem) (Q : Option Value → Mem → Prop) : Prop := Wk G (d + 1) rc rs mX12_place 57 [some (.ref p0), some (.int x1), some (.int x2), some (.int x3)] [] M Q
theorem eX12_place {G : GG} {d rc rs : Nat} (o : Nat) (a1 : Int32)  {M : Mem} {Q : Option Value → Mem → Prop} (h : (x_h M o).1 = 28 ∧ (∃ b2, x_r M o 31 = some b2 ∧ (x_h M b2).1 = 1 ∧ vp_in a1 (x_h M b2).2 ∧ LX12_place_9 G d rc rs o a1 (x_i M b2 a1.toNatClampNeg) 0 M Q)) : Call G (d + 1) rc rs mX12_place [.ref o, .int a1] M Q := by
  refine call_of (by decide) (Nat.le_of_ble_eq_true rfl) ?_
  show Wk G (d + 1) rc rs mX12_place 0 [some (.ref o), some (.int a1), none, none] [] M Q
  refine r_aload_n (pc := 0) (i := 0) dX12_place_0 rfl rfl ?_
  obtain ⟨k1, h⟩ := h
  obtain ⟨b2, hb2, h⟩ := h
  refine r_getr (pc := 1) flX12_82 dX12_place_1 rfl k1 hb2 ?_
  refine r_iload_n (pc := 4) (i := 1) dX12_place_4 rfl rfl ?_
  obtain ⟨k3, h⟩ := h
  obtain ⟨i4, h⟩ := h
  refine r_iald (pc := 5) dX12_place_5 k3 i4 ?_
  refine r_istore_n (pc := 6) (i := 2) dX12_place_6 rfl rfl (Nat.le_of_ble_eq_true rfl) ?_
  refine r_iconst (pc := 7) (v := 0) dX12_place_7 (by decide) ?_
  refine r_istore_n (pc := 8) (i := 3) dX12_place_8 rfl rfl (Nat.le_of_ble_eq_true rfl) ?_
  exact h
theorem vX12_place_9 {G : GG} {d rc rs : Nat} (p0 : Nat) (x1 : Int32) (x2 : Int32) (x3 : Int32)  {M : Mem} {Q : Option Value → Mem → Prop} (h : (x_h M p0).1 = 28 ∧ ((x_i M p0 26) ≤ x3 → LX12_place_57 G d rc rs p0 x1 x2 ((((x2 * (-1640531527)).toUInt32 >>> ((17 : Int32).toUInt32 &&& Int32.toUInt32 31)).toInt32) &&& 32767) M Q) ∧ (¬ (x_i M p0 26) ≤ x3 → ∃ b3, x_r M p0 31 = some b3 ∧ ∃ b4, x_r M p0 27 = some b4 ∧ (x_h M b4).1 = 1 ∧ vp_in ((27 * x1) + x3) (x_h M b4).2 ∧ (x_h M b3).1 = 1 ∧ vp_in (x_i M b4 ((27 * x1) + x3).toNatClampNeg) (x_h M b3).2 ∧ LX12_place_9 G d rc rs p0 x1 ((x2 * 31) + (x_i M b3 (x_i M b4 ((27 * x1) + x3).toNatClampNeg).toNatClampNeg)) (x3 + 1) M Q)) : LX12_place_9 G d rc rs p0 x1 x2 x3 M Q := by
  show Wk G (d + 1) rc rs mX12_place 9 _ _ M Q
  refine r_iload_n (pc := 9) (i := 3) dX12_place_9 rfl rfl ?_
  refine r_aload_n (pc := 10) (i := 0) dX12_place_10 rfl rfl ?_
  obtain ⟨k1, h⟩ := h
  refine r_geti (pc := 11) flX12_226 dX12_place_11 (Or.inl rfl) k1 ?_
  refine r_icmp_ge (pc := 14) (tgt := 45) dX12_place_14 (by decide) (fun c2 => ?_) (fun c2 => ?_)
  · replace h := h.1 c2
    refine r_iload_n (pc := 45) (i := 2) dX12_place_45 rfl rfl ?_
    refine r_ldc (pc := 46) (v := (-1640531527)) dX12_place_46 ww_1532 ?_
    refine r_imul (pc := 48) dX12_place_48 ?_
    refine r_bipush (pc := 49) (v := 17) dX12_place_49 (by decide) ?_
    refine r_iushr (pc := 51) dX12_place_51 ?_
    refine r_sipush (pc := 52) (v := 32767) dX12_place_52 (by decide) ?_
    refine r_iand (pc := 55) dX12_place_55 ?_
    refine r_istore_n (pc := 56) (i := 3) dX12_place_56 rfl rfl (Nat.le_of_ble_eq_true rfl) ?_
    exact h
  · replace h := h.2 c2
    refine r_iload_n (pc := 17) (i := 2) dX12_place_17 rfl rfl ?_
    refine r_bipush (pc := 18) (v := 31) dX12_place_18 (by decide) ?_
    refine r_imul (pc := 20) dX12_place_20 ?_
    refine r_aload_n (pc := 21) (i := 0) dX12_place_21 rfl rfl ?_
    obtain ⟨b3, hb3, h⟩ := h
    refine r_getr (pc := 22) flX12_82 dX12_place_22 rfl k1 hb3 ?_
    refine r_aload_n (pc := 25) (i := 0) dX12_place_25 rfl rfl ?_
    obtain ⟨b4, hb4, h⟩ := h
    refine r_getr (pc := 26) flX12_73 dX12_place_26 rfl k1 hb4 ?_
    refine r_bipush (pc := 29) (v := 27) dX12_place_29 (by decide) ?_
    refine r_iload_n (pc := 31) (i := 1) dX12_place_31 rfl rfl ?_
    refine r_imul (pc := 32) dX12_place_32 ?_
    refine r_iload_n (pc := 33) (i := 3) dX12_place_33 rfl rfl ?_
    refine r_iadd (pc := 34) dX12_place_34 ?_
    obtain ⟨k5, h⟩ := h
    obtain ⟨i6, h⟩ := h
    refine r_iald (pc := 35) dX12_place_35 k5 i6 ?_
    obtain ⟨k7, h⟩ := h
    obtain ⟨i8, h⟩ := h
    refine r_iald (pc := 36) dX12_place_36 k7 i8 ?_
    refine r_iadd (pc := 37) dX12_place_37 ?_
    refine r_istore_n (pc := 38) (i := 2) dX12_place_38 rfl rfl (Nat.le_of_ble_eq_true rfl) ?_
    refine r_iinc (pc := 39) (i := 3) (v := _ + 1) dX12_place_39 rfl rfl rfl ?_
    refine r_goto (pc := 42) (tgt := 9) dX12_place_42 (by decide) ?_
    exact h
theorem vX12_place_57 {G : GG} {d rc rs : Nat} (p0 : Nat) (x1 : Int32) (x2 : Int32) (x3 : Int32)  {M : Mem} {Q : Option Value → Mem → Prop} (h : (x_h M p0).1 = 28 ∧ (∃ b2, x_r M p0 32 = some b2 ∧ (x_h M b2).1 = 1 ∧ vp_in x3 (x_h M b2).2 ∧ ((x_i M b2 x3.toNatClampNeg) = 0 → Q (some (.int x3)) M) ∧ (¬ (x_i M b2 x3.toNatClampNeg) = 0 → Call G d 0 0 mX12_isAlike [.ref p0, .int ((x_i M b2 x3.toNatClampNeg) - 1), .int x1] M (fun r6 M7 => ∃ v8 : Int32, r6 = some (.int v8) ∧ (¬ v8 = 0 → Q (some (.int x3)) M7) ∧ (v8 = 0 → LX12_place_57 G d rc rs p0 x1 x2 ((x3 + 1) &&& 32767) M7 Q))))) : LX12_place_57 G d rc rs p0 x1 x2 x3 M Q := by
  show Wk G (d + 1) rc rs mX12_place 57 _ _ M Q
  refine r_aload_n (pc := 57) (i := 0) dX12_place_57 rfl rfl ?_
  obtain ⟨k1, h⟩ := h
  obtain ⟨b2, hb2, h⟩ := h
  refine r_getr (pc := 58) flX12_86 dX12_place_58 rfl k1 hb2 ?_
  refine r_iload_n (pc := 61) (i := 3) dX12_place_61 rfl rfl ?_
  obtain ⟨k3, h⟩ := h
  obtain ⟨i4, h⟩ := h
  refine r_iald (pc := 62) dX12_place_62 k3 i4 ?_
  refine r_if_eq (pc := 63) (tgt := 93) dX12_place_63 (by decide) (fun c5 => ?_) (fun c5 => ?_)
  · replace h := h.1 c5
    refine r_iload_n (pc := 93) (i := 3) dX12_place_93 rfl rfl ?_
    exact r_iret (pc := 94) dX12_place_94 rfl h
  · replace h := h.2 c5
    refine r_aload_n (pc := 66) (i := 0) dX12_place_66 rfl rfl ?_
    refine r_aload_n (pc := 67) (i := 0) dX12_place_67 rfl rfl ?_
    refine r_getr (pc := 68) flX12_86 dX12_place_68 rfl k1 hb2 ?_
    refine r_iload_n (pc := 71) (i := 3) dX12_place_71 rfl rfl ?_
    refine r_iald (pc := 72) dX12_place_72 k3 i4 ?_
    refine r_iconst (pc := 73) (v := 1) dX12_place_73 (by decide) ?_
    refine r_isub (pc := 74) dX12_place_74 ?_
    refine r_iload_n (pc := 75) (i := 1) dX12_place_75 rfl rfl ?_
    refine r_callV (pc := 76) (ci := 12) (as := [_, _]) (st := []) okX12_isAlike lkX12_230 inX12_isAlike seX12_isAlike ⟨_, rfl, rfl⟩ dX12_place_76 rfl k1 (Nat.le_of_ble_eq_true rfl) (Nat.zero_le _) (Nat.zero_le _) (Call.mono h (fun r6 M7 h => ?_))
    obtain ⟨v8, rfl, h⟩ := h
    refine r_if_ne (pc := 79) (tgt := 93) dX12_place_79 (by decide) (fun c9 => ?_) (fun c9 => ?_)
    · replace h := h.1 c9
      refine r_iload_n (pc := 93) (i := 3) dX12_place_93 rfl rfl ?_
      exact r_iret (pc := 94) dX12_place_94 rfl h
    · replace h := h.2 c9
      refine r_iload_n (pc := 82) (i := 3) dX12_place_82 rfl rfl ?_
      refine r_iconst (pc := 83) (v := 1) dX12_place_83 (by decide) ?_
      refine r_iadd (pc := 84) dX12_place_84 ?_
      refine r_sipush (pc := 85) (v := 32767) dX12_place_85 (by decide) ?_
      refine r_iand (pc := 88) dX12_place_88 ?_
      refine r_istore_n (pc := 89) (i := 3) dX12_place_89 rfl rfl (Nat.le_of_ble_eq_true rfl) ?_
      refine r_goto (pc := 90) (tgt := 57) dX12_place_90 (by decide) ?_
      exact h
abbrev LX12_apart_4 (G : GG) (d rc rs : Nat) (p0 : Nat) (x1 : Int32) (x2 : Int32) (M : Mem) (Q : Option Value → Mem → Prop) : Prop := Wk G (d + 1) rc rs mX12_apart 4 [some (.ref p0), some (.int x1), some (.int x2), none, none] [] M Q
abbrev LX12_apart_32 (G : GG) (d rc rs : Nat) (p0 : Nat) (x1 : Int32) (x2 : Int32) (z3 : Option Value) (z4 : Option Value) (M : Mem) (Q : Option Value → Mem → Prop) : Prop := Wk G (d + 1) rc rs mX12_apart 32 [some (.ref p0), some (.int x1), some (.int x2), z3, z4] [] M Q
abbrev LX12_apart_43 (G : GG) (d rc rs : Nat) (p0 : Nat) (x1 : Int32) (x2 : Int32) (x3 : Int32) (z4 : Option Value) (M : Mem) (Q : Option Value → Mem → Prop) : Prop := Wk G (d + 1) rc rs mX12_apart 43 [some (.ref p0), some (.int x1), some (.int x2), some (.int x3), z4] [] M Q
abbrev LX12_apart_64 (G : GG) (d rc rs : Nat) (p0 : Nat) (x1 : Int32) (x2 : Int32) (x3 : Int32) (z4 : Option Value) (M : Mem) (Q : Option Value → Mem → Prop) : Prop := Wk G (d + 1) rc rs mX12_apart 64 [some (.ref p0), some (.int x1), some (.int x2), some (.int x3), z4] [] M Q
abbrev LX12_apart_92 (G : GG) (d rc rs : Nat) (p0 : Nat) (x1 : Int32) (x2 : Int32) (x3 : Int32) (z4 : Option Value) (M : Mem) (Q : Option Value → Mem → Prop) : Prop := Wk G (d + 1) rc rs mX12_apart 92 [some (.ref p0), some (.int x1), some (.int x2), some (.int x3), z4] [] M Q
theorem eX12_apart {G : GG} {d rc rs : Nat} (o : Nat)  {M : Mem} {Q : Option Value → Mem → Prop} (h : LX12_apart_4 G d rc rs o 0 0 M Q) : Call G (d + 1) rc rs mX12_apart [.ref o] M Q := by
  refine call_of (by decide) (Nat.le_of_ble_eq_true rfl) ?_
  show Wk G (d + 1) rc rs mX12_apart 0 [some (.ref o), none, none, none, none] [] M Q
  refine r_iconst (pc := 0) (v := 0) dX12_apart_0 (by decide) ?_
  refine r_istore_n (pc := 1) (i := 1) dX12_apart_1 rfl rfl (Nat.le_of_ble_eq_true rfl) ?_
  refine r_iconst (pc := 2) (v := 0) dX12_apart_2 (by decide) ?_
  refine r_istore_n (pc := 3) (i := 2) dX12_apart_3 rfl rfl (Nat.le_of_ble_eq_true rfl) ?_
  exact h
theorem vX12_apart_4 {G : GG} {d rc rs : Nat} (p0 : Nat) (x1 : Int32) (x2 : Int32)  {M : Mem} {Q : Option Value → Mem → Prop} (h : (x_h M p0).1 = 28 ∧ ((x_i M p0 25) ≤ x2 → LX12_apart_32 G d rc rs p0 x1 (-1) none none M Q) ∧ (¬ (x_i M p0 25) ≤ x2 → ∃ b3, x_r M p0 30 = some b3 ∧ ∃ b4, x_r M p0 28 = some b4 ∧ (x_h M b4).1 = 1 ∧ vp_in x2 (x_h M b4).2 ∧ (x_h M b3).1 = 1 ∧ vp_in x2 (x_h M b3).2 ∧ (∀ M9, M9 = x_si M b3 x2.toNatClampNeg (x_i M b4 x2.toNatClampNeg) → LX12_apart_4 G d rc rs p0 x1 (x2 + 1) M9 Q))) : LX12_apart_4 G d rc rs p0 x1 x2 M Q := by
  show Wk G (d + 1) rc rs mX12_apart 4 _ _ M Q
  refine r_iload_n (pc := 4) (i := 2) dX12_apart_4 rfl rfl ?_
  refine r_aload_n (pc := 5) (i := 0) dX12_apart_5 rfl rfl ?_
  obtain ⟨k1, h⟩ := h
  refine r_geti (pc := 6) flX12_234 dX12_apart_6 (Or.inl rfl) k1 ?_
  refine r_icmp_ge (pc := 9) (tgt := 30) dX12_apart_9 (by decide) (fun c2 => ?_) (fun c2 => ?_)
  · replace h := h.1 c2
    refine r_iconst (pc := 30) (v := (-1)) dX12_apart_30 (by decide) ?_
    refine r_istore_n (pc := 31) (i := 2) dX12_apart_31 rfl rfl (Nat.le_of_ble_eq_true rfl) ?_
    exact h
  · replace h := h.2 c2
    refine r_aload_n (pc := 12) (i := 0) dX12_apart_12 rfl rfl ?_
    obtain ⟨b3, hb3, h⟩ := h
    refine r_getr (pc := 13) flX12_79 dX12_apart_13 rfl k1 hb3 ?_
    refine r_iload_n (pc := 16) (i := 2) dX12_apart_16 rfl rfl ?_
    refine r_aload_n (pc := 17) (i := 0) dX12_apart_17 rfl rfl ?_
    obtain ⟨b4, hb4, h⟩ := h
    refine r_getr (pc := 18) flX12_76 dX12_apart_18 rfl k1 hb4 ?_
    refine r_iload_n (pc := 21) (i := 2) dX12_apart_21 rfl rfl ?_
    obtain ⟨k5, h⟩ := h
    obtain ⟨i6, h⟩ := h
    refine r_iald (pc := 22) dX12_apart_22 k5 i6 ?_
    obtain ⟨k7, h⟩ := h
    obtain ⟨i8, h⟩ := h
    refine r_iast (pc := 23) dX12_apart_23 k7 i8 ?_
    replace h := h _ rfl
    refine r_iinc (pc := 24) (i := 2) (v := _ + 1) dX12_apart_24 rfl rfl rfl ?_
    refine r_goto (pc := 27) (tgt := 4) dX12_apart_27 (by decide) ?_
    exact h
theorem vX12_apart_32 {G : GG} {d rc rs : Nat} (p0 : Nat) (x1 : Int32) (x2 : Int32) (z3 : Option Value) (z4 : Option Value) (hz3 : c1 z3 = true) (hz4 : c1 z4 = true) {M : Mem} {Q : Option Value → Mem → Prop} (h : (x1 = x2 → Q none M) ∧ (¬ x1 = x2 → LX12_apart_43 G d rc rs p0 0 x1 0 z4 M Q)) : LX12_apart_32 G d rc rs p0 x1 x2 z3 z4 M Q := by
  show Wk G (d + 1) rc rs mX12_apart 32 _ _ M Q
  refine r_iload_n (pc := 32) (i := 1) dX12_apart_32 rfl rfl ?_
  refine r_iload_n (pc := 33) (i := 2) dX12_apart_33 rfl rfl ?_
  refine r_icmp_eq (pc := 34) (tgt := 169) dX12_apart_34 (by decide) (fun c1 => ?_) (fun c1 => ?_)
  · replace h := h.1 c1
    exact r_vret (pc := 169) dX12_apart_169 rfl h
  · replace h := h.2 c1
    refine r_iload_n (pc := 37) (i := 1) dX12_apart_37 rfl rfl ?_
    refine r_istore_n (pc := 38) (i := 2) dX12_apart_38 rfl rfl (Nat.le_of_ble_eq_true rfl) ?_
    refine r_iconst (pc := 39) (v := 0) dX12_apart_39 (by decide) ?_
    refine r_istore_n (pc := 40) (i := 1) dX12_apart_40 rfl rfl (Nat.le_of_ble_eq_true rfl) ?_
    refine r_iconst (pc := 41) (v := 0) dX12_apart_41 (by decide) ?_
    refine r_istore_n (pc := 42) (i := 3) dX12_apart_42 rfl rfl (Nat.le_of_ble_eq_true rfl) ?_
    exact h
theorem vX12_apart_43 {G : GG} {d rc rs : Nat} (p0 : Nat) (x1 : Int32) (x2 : Int32) (x3 : Int32) (z4 : Option Value) (hz4 : c1 z4 = true) {M : Mem} {Q : Option Value → Mem → Prop} (h : (32768 ≤ x3 → LX12_apart_64 G d rc rs p0 x1 x2 0 z4 M Q) ∧ (¬ 32768 ≤ x3 → (x_h M p0).1 = 28 ∧ (∃ b3, x_r M p0 32 = some b3 ∧ (x_h M b3).1 = 1 ∧ vp_in x3 (x_h M b3).2 ∧ (∀ M6, M6 = x_si M b3 x3.toNatClampNeg 0 → LX12_apart_43 G d rc rs p0 x1 x2 (x3 + 1) z4 M6 Q)))) : LX12_apart_43 G d rc rs p0 x1 x2 x3 z4 M Q := by
  show Wk G (d + 1) rc rs mX12_apart 43 _ _ M Q
  refine r_iload_n (pc := 43) (i := 3) dX12_apart_43 rfl rfl ?_
  refine r_ldc (pc := 44) (v := 32768) dX12_apart_44 ww_1205 ?_
  refine r_icmp_ge (pc := 46) (tgt := 62) dX12_apart_46 (by decide) (fun c1 => ?_) (fun c1 => ?_)
  · replace h := h.1 c1
    refine r_iconst (pc := 62) (v := 0) dX12_apart_62 (by decide) ?_
    refine r_istore_n (pc := 63) (i := 3) dX12_apart_63 rfl rfl (Nat.le_of_ble_eq_true rfl) ?_
    exact h
  · replace h := h.2 c1
    refine r_aload_n (pc := 49) (i := 0) dX12_apart_49 rfl rfl ?_
    obtain ⟨k2, h⟩ := h
    obtain ⟨b3, hb3, h⟩ := h
    refine r_getr (pc := 50) flX12_86 dX12_apart_50 rfl k2 hb3 ?_
    refine r_iload_n (pc := 53) (i := 3) dX12_apart_53 rfl rfl ?_
    refine r_iconst (pc := 54) (v := 0) dX12_apart_54 (by decide) ?_
    obtain ⟨k4, h⟩ := h
    obtain ⟨i5, h⟩ := h
    refine r_iast (pc := 55) dX12_apart_55 k4 i5 ?_
    replace h := h _ rfl
    refine r_iinc (pc := 56) (i := 3) (v := _ + 1) dX12_apart_56 rfl rfl rfl ?_
    refine r_goto (pc := 59) (tgt := 43) dX12_apart_59 (by decide) ?_
    exact h
theorem vX12_apart_64 {G : GG} {d rc rs : Nat} (p0 : Nat) (x1 : Int32) (x2 : Int32) (x3 : Int32) (z4 : Option Value) (hz4 : c1 z4 = true) {M : Mem} {Q : Option Value → Mem → Prop} (h : (x_h M p0).1 = 28 ∧ ((x_i M p0 25) ≤ x3 → LX12_apart_92 G d rc rs p0 x1 x2 0 z4 M Q) ∧ (¬ (x_i M p0 25) ≤ x3 → ∃ b3, x_r M p0 31 = some b3 ∧ ∃ b4, x_r M p0 30 = some b4 ∧ (x_h M b4).1 = 1 ∧ vp_in x3 (x_h M b4).2 ∧ (x_h M b3).1 = 1 ∧ vp_in x3 (x_h M b3).2 ∧ (∀ M9, M9 = x_si M b3 x3.toNatClampNeg (x_i M b4 x3.toNatClampNeg) → LX12_apart_64 G d rc rs p0 x1 x2 (x3 + 1) z4 M9 Q))) : LX12_apart_64 G d rc rs p0 x1 x2 x3 z4 M Q := by
  show Wk G (d + 1) rc rs mX12_apart 64 _ _ M Q
  refine r_iload_n (pc := 64) (i := 3) dX12_apart_64 rfl rfl ?_
  refine r_aload_n (pc := 65) (i := 0) dX12_apart_65 rfl rfl ?_
  obtain ⟨k1, h⟩ := h
  refine r_geti (pc := 66) flX12_234 dX12_apart_66 (Or.inl rfl) k1 ?_
  refine r_icmp_ge (pc := 69) (tgt := 90) dX12_apart_69 (by decide) (fun c2 => ?_) (fun c2 => ?_)
  · replace h := h.1 c2
    refine r_iconst (pc := 90) (v := 0) dX12_apart_90 (by decide) ?_
    refine r_istore_n (pc := 91) (i := 3) dX12_apart_91 rfl rfl (Nat.le_of_ble_eq_true rfl) ?_
    exact h
  · replace h := h.2 c2
    refine r_aload_n (pc := 72) (i := 0) dX12_apart_72 rfl rfl ?_
    obtain ⟨b3, hb3, h⟩ := h
    refine r_getr (pc := 73) flX12_82 dX12_apart_73 rfl k1 hb3 ?_
    refine r_iload_n (pc := 76) (i := 3) dX12_apart_76 rfl rfl ?_
    refine r_aload_n (pc := 77) (i := 0) dX12_apart_77 rfl rfl ?_
    obtain ⟨b4, hb4, h⟩ := h
    refine r_getr (pc := 78) flX12_79 dX12_apart_78 rfl k1 hb4 ?_
    refine r_iload_n (pc := 81) (i := 3) dX12_apart_81 rfl rfl ?_
    obtain ⟨k5, h⟩ := h
    obtain ⟨i6, h⟩ := h
    refine r_iald (pc := 82) dX12_apart_82 k5 i6 ?_
    obtain ⟨k7, h⟩ := h
    obtain ⟨i8, h⟩ := h
    refine r_iast (pc := 83) dX12_apart_83 k7 i8 ?_
    replace h := h _ rfl
    refine r_iinc (pc := 84) (i := 3) (v := _ + 1) dX12_apart_84 rfl rfl rfl ?_
    refine r_goto (pc := 87) (tgt := 64) dX12_apart_87 (by decide) ?_
    exact h
theorem vX12_apart_92 {G : GG} {d rc rs : Nat} (p0 : Nat) (x1 : Int32) (x2 : Int32) (x3 : Int32) (z4 : Option Value) (hz4 : c1 z4 = true) {M : Mem} {Q : Option Value → Mem → Prop} (h : (x_h M p0).1 = 28 ∧ ((x_i M p0 25) ≤ x3 → LX12_apart_32 G d rc rs p0 x1 x2 (some (.int x3)) z4 M Q) ∧ (¬ (x_i M p0 25) ≤ x3 → Call G d 0 0 mX12_place [.ref p0, .int x3] M (fun r3 M4 => ∃ v5 : Int32, r3 = some (.int v5) ∧ (x_h M4 p0).1 = 28 ∧ (∃ b7, x_r M4 p0 32 = some b7 ∧ (x_h M4 b7).1 = 1 ∧ vp_in v5 (x_h M4 b7).2 ∧ (¬ (x_i M4 b7 v5.toNatClampNeg) = 0 → ∃ b11, x_r M4 p0 30 = some b11 ∧ (x_h M4 b11).1 = 1 ∧ vp_in ((x_i M4 b7 v5.toNatClampNeg) - 1) (x_h M4 b11).2 ∧ vp_in x3 (x_h M4 b11).2 ∧ (∀ M15, M15 = x_si M4 b11 x3.toNatClampNeg (x_i M4 b11 ((x_i M4 b7 v5.toNatClampNeg) - 1).toNatClampNeg) → LX12_apart_92 G d rc rs p0 x1 x2 (x3 + 1) (some (.int v5)) M15 Q)) ∧ ((x_i M4 b7 v5.toNatClampNeg) = 0 → ∀ M16, M16 = x_si M4 b7 v5.toNatClampNeg (x3 + 1) → ∃ b17, x_r M16 p0 30 = some b17 ∧ (x_h M4 b17).1 = 1 ∧ vp_in x3 (x_h M4 b17).2 ∧ (∀ M20, M20 = x_si M16 b17 x3.toNatClampNeg x1 → LX12_apart_92 G d rc rs p0 (x1 + 1) x2 (x3 + 1) (some (.int v5)) M20 Q)))))) : LX12_apart_92 G d rc rs p0 x1 x2 x3 z4 M Q := by
  show Wk G (d + 1) rc rs mX12_apart 92 _ _ M Q
  refine r_iload_n (pc := 92) (i := 3) dX12_apart_92 rfl rfl ?_
  refine r_aload_n (pc := 93) (i := 0) dX12_apart_93 rfl rfl ?_
  obtain ⟨k1, h⟩ := h
  refine r_geti (pc := 94) flX12_234 dX12_apart_94 (Or.inl rfl) k1 ?_
  refine r_icmp_ge (pc := 97) (tgt := 166) dX12_apart_97 (by decide) (fun c2 => ?_) (fun c2 => ?_)
  · replace h := h.1 c2
    refine r_goto (pc := 166) (tgt := 32) dX12_apart_166 (by decide) ?_
    exact h
  · replace h := h.2 c2
    refine r_aload_n (pc := 100) (i := 0) dX12_apart_100 rfl rfl ?_
    refine r_iload_n (pc := 101) (i := 3) dX12_apart_101 rfl rfl ?_
    refine r_callV (pc := 102) (ci := 12) (as := [_]) (st := []) okX12_place lkX12_237 inX12_place seX12_place ⟨_, rfl, rfl⟩ dX12_apart_102 rfl k1 (Nat.le_of_ble_eq_true rfl) (Nat.zero_le _) (Nat.zero_le _) (Call.mono h (fun r3 M4 h => ?_))
    obtain ⟨v5, rfl, h⟩ := h
    refine r_istore (pc := 105) (i := 4) dX12_apart_105 rfl (Nat.le_of_ble_eq_true rfl) ?_
    refine r_aload_n (pc := 107) (i := 0) dX12_apart_107 rfl rfl ?_
    obtain ⟨k6, h⟩ := h
    obtain ⟨b7, hb7, h⟩ := h
    refine r_getr (pc := 108) flX12_86 dX12_apart_108 rfl k6 hb7 ?_
    refine r_iload (pc := 111) (i := 4) dX12_apart_111 rfl ?_
    obtain ⟨k8, h⟩ := h
    obtain ⟨i9, h⟩ := h
    refine r_iald (pc := 113) dX12_apart_113 k8 i9 ?_
    refine r_if_ne (pc := 114) (tgt := 140) dX12_apart_114 (by decide) (fun c10 => ?_) (fun c10 => ?_)
    · replace h := h.1 c10
      refine r_aload_n (pc := 140) (i := 0) dX12_apart_140 rfl rfl ?_
      obtain ⟨b11, hb11, h⟩ := h
      refine r_getr (pc := 141) flX12_79 dX12_apart_141 rfl k6 hb11 ?_
      refine r_iload_n (pc := 144) (i := 3) dX12_apart_144 rfl rfl ?_
      refine r_aload_n (pc := 145) (i := 0) dX12_apart_145 rfl rfl ?_
      refine r_getr (pc := 146) flX12_79 dX12_apart_146 rfl k6 hb11 ?_
      refine r_aload_n (pc := 149) (i := 0) dX12_apart_149 rfl rfl ?_
      refine r_getr (pc := 150) flX12_86 dX12_apart_150 rfl k6 hb7 ?_
      refine r_iload (pc := 153) (i := 4) dX12_apart_153 rfl ?_
      refine r_iald (pc := 155) dX12_apart_155 k8 i9 ?_
      refine r_iconst (pc := 156) (v := 1) dX12_apart_156 (by decide) ?_
      refine r_isub (pc := 157) dX12_apart_157 ?_
      obtain ⟨k12, h⟩ := h
      obtain ⟨i13, h⟩ := h
      refine r_iald (pc := 158) dX12_apart_158 k12 i13 ?_
      obtain ⟨i14, h⟩ := h
      refine r_iast (pc := 159) dX12_apart_159 k12 i14 ?_
      replace h := h _ rfl
      refine r_iinc (pc := 160) (i := 3) (v := _ + 1) dX12_apart_160 rfl rfl rfl ?_
      refine r_goto (pc := 163) (tgt := 92) dX12_apart_163 (by decide) ?_
      exact h
    · replace h := h.2 c10
      refine r_aload_n (pc := 117) (i := 0) dX12_apart_117 rfl rfl ?_
      refine r_getr (pc := 118) flX12_86 dX12_apart_118 rfl k6 hb7 ?_
      refine r_iload (pc := 121) (i := 4) dX12_apart_121 rfl ?_
      refine r_iload_n (pc := 123) (i := 3) dX12_apart_123 rfl rfl ?_
      refine r_iconst (pc := 124) (v := 1) dX12_apart_124 (by decide) ?_
      refine r_iadd (pc := 125) dX12_apart_125 ?_
      refine r_iast (pc := 126) dX12_apart_126 k8 i9 ?_
      replace h := h _ rfl
      refine r_aload_n (pc := 127) (i := 0) dX12_apart_127 rfl rfl ?_
      obtain ⟨b17, hb17, h⟩ := h
      refine r_getr (pc := 128) flX12_79 dX12_apart_128 rfl k6 hb17 ?_
      refine r_iload_n (pc := 131) (i := 3) dX12_apart_131 rfl rfl ?_
      refine r_iload_n (pc := 132) (i := 1) dX12_apart_132 rfl rfl ?_
      obtain ⟨k18, h⟩ := h
      obtain ⟨i19, h⟩ := h
      refine r_iast (pc := 133) dX12_apart_133 k18 i19 ?_
      replace h := h _ rfl
      refine r_iinc (pc := 134) (i := 1) (v := _ + 1) dX12_apart_134 rfl rfl rfl ?_
      refine r_goto (pc := 137) (tgt := 160) dX12_apart_137 (by decide) ?_
      refine r_iinc (pc := 160) (i := 3) (v := _ + 1) dX12_apart_160 rfl rfl rfl ?_
      refine r_goto (pc := 163) (tgt := 92) dX12_apart_163 (by decide) ?_
      exact h
abbrev LX12_least_6 (G : GG) (d rc rs : Nat) (p0 : Nat) (x1 : Int32) (M : Mem) (Q : Option Value → Mem → Prop) : Prop := Wk G (d + 1) rc rs mX12_least 6 [some (.ref p0), some (.int x1), none, none] [] M Q
abbrev LX12_least_53 (G : GG) (d rc rs : Nat) (p0 : Nat) (x1 : Int32) (z2 : Option Value) (z3 : Option Value) (M : Mem) (Q : Option Value → Mem → Prop) : Prop := Wk G (d + 1) rc rs mX12_least 53 [some (.ref p0), some (.int x1), z2, z3] [] M Q
abbrev LX12_least_63 (G : GG) (d rc rs : Nat) (p0 : Nat) (x1 : Int32) (x2 : Int32) (z3 : Option Value) (M : Mem) (Q : Option Value → Mem → Prop) : Prop := Wk G (d + 1) rc rs mX12_least 63 [some (.ref p0), some (.int x1), some (.int x2), z3] [] M Q
theorem eX12_least {G : GG} {d rc rs : Nat} (o : Nat)  {M : Mem} {Q : Option Value → Mem → Prop} (h : (x_h M o).1 = 28 ∧ Call G d 0 0 mX12_apart [.ref o] M (fun r2 M3 => r2 = none ∧ LX12_least_6 G d rc rs o 0 M3 Q)) : Call G (d + 1) rc rs mX12_least [.ref o] M Q := by
  refine call_of (by decide) (Nat.le_of_ble_eq_true rfl) ?_
  show Wk G (d + 1) rc rs mX12_least 0 [some (.ref o), none, none, none] [] M Q
  refine r_aload_n (pc := 0) (i := 0) dX12_least_0 rfl rfl ?_
  obtain ⟨k1, h⟩ := h
  refine r_callV (pc := 1) (ci := 12) (as := []) (st := []) okX12_apart lkX12_240 inX12_apart seX12_apart ⟨_, rfl, rfl⟩ dX12_least_1 rfl k1 (Nat.le_of_ble_eq_true rfl) (Nat.zero_le _) (Nat.zero_le _) (Call.mono h (fun r2 M3 h => ?_))
  obtain ⟨rfl, h⟩ := h
  refine r_iconst (pc := 4) (v := 0) dX12_least_4 (by decide) ?_
  refine r_istore_n (pc := 5) (i := 1) dX12_least_5 rfl rfl (Nat.le_of_ble_eq_true rfl) ?_
  exact h
theorem vX12_least_6 {G : GG} {d rc rs : Nat} (p0 : Nat) (x1 : Int32)  {M : Mem} {Q : Option Value → Mem → Prop} (h : (x_h M p0).1 = 28 ∧ ((x_i M p0 25) ≤ x1 → ∀ M3, M3 = x_si M p0 29 1 → ∃ b4, x_r M3 p0 33 = some b4 ∧ (x_h M b4).1 = 1 ∧ vp_in 0 (x_h M b4).2 ∧ (∀ M7, M7 = x_si M3 b4 (0 : Int32).toNatClampNeg 0 → ∃ b8, x_r M7 p0 34 = some b8 ∧ ∃ b9, x_r M7 p0 30 = some b9 ∧ (x_h M b9).1 = 1 ∧ vp_in 0 (x_h M b9).2 ∧ (x_h M b8).1 = 1 ∧ vp_in (x_i M7 b9 (0 : Int32).toNatClampNeg) (x_h M b8).2 ∧ (∀ M14, M14 = x_si M7 b8 (x_i M7 b9 (0 : Int32).toNatClampNeg).toNatClampNeg 0 → LX12_least_53 G d rc rs p0 0 none none M14 Q))) ∧ (¬ (x_i M p0 25) ≤ x1 → ∃ b15, x_r M p0 34 = some b15 ∧ (x_h M b15).1 = 1 ∧ vp_in x1 (x_h M b15).2 ∧ (∀ M18, M18 = x_si M b15 x1.toNatClampNeg (-1) → LX12_least_6 G d rc rs p0 (x1 + 1) M18 Q))) : LX12_least_6 G d rc rs p0 x1 M Q := by
  show Wk G (d + 1) rc rs mX12_least 6 _ _ M Q
  refine r_iload_n (pc := 6) (i := 1) dX12_least_6 rfl rfl ?_
  refine r_aload_n (pc := 7) (i := 0) dX12_least_7 rfl rfl ?_
  obtain ⟨k1, h⟩ := h
  refine r_geti (pc := 8) flX12_234 dX12_least_8 (Or.inl rfl) k1 ?_
  refine r_icmp_ge (pc := 11) (tgt := 27) dX12_least_11 (by decide) (fun c2 => ?_) (fun c2 => ?_)
  · replace h := h.1 c2
    refine r_aload_n (pc := 27) (i := 0) dX12_least_27 rfl rfl ?_
    refine r_iconst (pc := 28) (v := 1) dX12_least_28 (by decide) ?_
    refine r_puti (pc := 29) flX12_243 dX12_least_29 (Or.inl rfl) (fun q hq => by cases hq; rfl) k1 ?_
    replace h := h _ rfl
    refine r_aload_n (pc := 32) (i := 0) dX12_least_32 rfl rfl ?_
    obtain ⟨b4, hb4, h⟩ := h
    refine r_getr (pc := 33) flX12_89 dX12_least_33 rfl k1 hb4 ?_
    refine r_iconst (pc := 36) (v := 0) dX12_least_36 (by decide) ?_
    refine r_iconst (pc := 37) (v := 0) dX12_least_37 (by decide) ?_
    obtain ⟨k5, h⟩ := h
    obtain ⟨i6, h⟩ := h
    refine r_iast (pc := 38) dX12_least_38 k5 i6 ?_
    replace h := h _ rfl
    refine r_aload_n (pc := 39) (i := 0) dX12_least_39 rfl rfl ?_
    obtain ⟨b8, hb8, h⟩ := h
    refine r_getr (pc := 40) flX12_92 dX12_least_40 rfl k1 hb8 ?_
    refine r_aload_n (pc := 43) (i := 0) dX12_least_43 rfl rfl ?_
    obtain ⟨b9, hb9, h⟩ := h
    refine r_getr (pc := 44) flX12_79 dX12_least_44 rfl k1 hb9 ?_
    refine r_iconst (pc := 47) (v := 0) dX12_least_47 (by decide) ?_
    obtain ⟨k10, h⟩ := h
    obtain ⟨i11, h⟩ := h
    refine r_iald (pc := 48) dX12_least_48 k10 i11 ?_
    refine r_iconst (pc := 49) (v := 0) dX12_least_49 (by decide) ?_
    obtain ⟨k12, h⟩ := h
    obtain ⟨i13, h⟩ := h
    refine r_iast (pc := 50) dX12_least_50 k12 i13 ?_
    replace h := h _ rfl
    refine r_iconst (pc := 51) (v := 0) dX12_least_51 (by decide) ?_
    refine r_istore_n (pc := 52) (i := 1) dX12_least_52 rfl rfl (Nat.le_of_ble_eq_true rfl) ?_
    exact h
  · replace h := h.2 c2
    refine r_aload_n (pc := 14) (i := 0) dX12_least_14 rfl rfl ?_
    obtain ⟨b15, hb15, h⟩ := h
    refine r_getr (pc := 15) flX12_92 dX12_least_15 rfl k1 hb15 ?_
    refine r_iload_n (pc := 18) (i := 1) dX12_least_18 rfl rfl ?_
    refine r_iconst (pc := 19) (v := (-1)) dX12_least_19 (by decide) ?_
    obtain ⟨k16, h⟩ := h
    obtain ⟨i17, h⟩ := h
    refine r_iast (pc := 20) dX12_least_20 k16 i17 ?_
    replace h := h _ rfl
    refine r_iinc (pc := 21) (i := 1) (v := _ + 1) dX12_least_21 rfl rfl rfl ?_
    refine r_goto (pc := 24) (tgt := 6) dX12_least_24 (by decide) ?_
    exact h
theorem vX12_least_53 {G : GG} {d rc rs : Nat} (p0 : Nat) (x1 : Int32) (z2 : Option Value) (z3 : Option Value) (hz2 : c1 z2 = true) (hz3 : c1 z3 = true) {M : Mem} {Q : Option Value → Mem → Prop} (h : (x_h M p0).1 = 28 ∧ ((x_i M p0 29) ≤ x1 → Q none M) ∧ (¬ (x_i M p0 29) ≤ x1 → LX12_least_63 G d rc rs p0 x1 0 z3 M Q)) : LX12_least_53 G d rc rs p0 x1 z2 z3 M Q := by
  show Wk G (d + 1) rc rs mX12_least 53 _ _ M Q
  refine r_iload_n (pc := 53) (i := 1) dX12_least_53 rfl rfl ?_
  refine r_aload_n (pc := 54) (i := 0) dX12_least_54 rfl rfl ?_
  obtain ⟨k1, h⟩ := h
  refine r_geti (pc := 55) flX12_243 dX12_least_55 (Or.inl rfl) k1 ?_
  refine r_icmp_ge (pc := 58) (tgt := 150) dX12_least_58 (by decide) (fun c2 => ?_) (fun c2 => ?_)
  · replace h := h.1 c2
    exact r_vret (pc := 150) dX12_least_150 rfl h
  · replace h := h.2 c2
    refine r_iconst (pc := 61) (v := 0) dX12_least_61 (by decide) ?_
    refine r_istore_n (pc := 62) (i := 2) dX12_least_62 rfl rfl (Nat.le_of_ble_eq_true rfl) ?_
    exact h
theorem vX12_least_63 {G : GG} {d rc rs : Nat} (p0 : Nat) (x1 : Int32) (x2 : Int32) (z3 : Option Value) (hz3 : c1 z3 = true) {M : Mem} {Q : Option Value → Mem → Prop} (h : (x_h M p0).1 = 28 ∧ ((x_i M p0 26) ≤ x2 → LX12_least_53 G d rc rs p0 (x1 + 1) (some (.int x2)) z3 M Q) ∧ (¬ (x_i M p0 26) ≤ x2 → ∃ b3, x_r M p0 27 = some b3 ∧ ∃ b4, x_r M p0 33 = some b4 ∧ (x_h M b4).1 = 1 ∧ vp_in x1 (x_h M b4).2 ∧ (x_h M b3).1 = 1 ∧ vp_in ((27 * (x_i M b4 x1.toNatClampNeg)) + x2) (x_h M b3).2 ∧ (∃ b9, x_r M p0 34 = some b9 ∧ ∃ b10, x_r M p0 30 = some b10 ∧ (x_h M b10).1 = 1 ∧ vp_in (x_i M b3 ((27 * (x_i M b4 x1.toNatClampNeg)) + x2).toNatClampNeg) (x_h M b10).2 ∧ (x_h M b9).1 = 1 ∧ vp_in (x_i M b10 (x_i M b3 ((27 * (x_i M b4 x1.toNatClampNeg)) + x2).toNatClampNeg).toNatClampNeg) (x_h M b9).2 ∧ (¬ (x_i M b9 (x_i M b10 (x_i M b3 ((27 * (x_i M b4 x1.toNatClampNeg)) + x2).toNatClampNeg).toNatClampNeg).toNatClampNeg) = (-1) → LX12_least_63 G d rc rs p0 x1 (x2 + 1) (some (.int (x_i M b3 ((27 * (x_i M b4 x1.toNatClampNeg)) + x2).toNatClampNeg))) M Q) ∧ ((x_i M b9 (x_i M b10 (x_i M b3 ((27 * (x_i M b4 x1.toNatClampNeg)) + x2).toNatClampNeg).toNatClampNeg).toNatClampNeg) = (-1) → ∀ M16, M16 = x_si M b9 (x_i M b10 (x_i M b3 ((27 * (x_i M b4 x1.toNatClampNeg)) + x2).toNatClampNeg).toNatClampNeg).toNatClampNeg (x_i M p0 29) → vp_in (x_i M16 p0 29) (x_h M b4).2 ∧ (∀ M18, M18 = x_si M16 b4 (x_i M16 p0 29).toNatClampNeg (x_i M b3 ((27 * (x_i M b4 x1.toNatClampNeg)) + x2).toNatClampNeg) → ∀ M19, M19 = x_si M18 p0 29 ((x_i M18 p0 29) + 1) → LX12_least_63 G d rc rs p0 x1 (x2 + 1) (some (.int (x_i M b3 ((27 * (x_i M b4 x1.toNatClampNeg)) + x2).toNatClampNeg))) M19 Q))))) : LX12_least_63 G d rc rs p0 x1 x2 z3 M Q := by
  show Wk G (d + 1) rc rs mX12_least 63 _ _ M Q
  refine r_iload_n (pc := 63) (i := 2) dX12_least_63 rfl rfl ?_
  refine r_aload_n (pc := 64) (i := 0) dX12_least_64 rfl rfl ?_
  obtain ⟨k1, h⟩ := h
  refine r_geti (pc := 65) flX12_226 dX12_least_65 (Or.inl rfl) k1 ?_
  refine r_icmp_ge (pc := 68) (tgt := 144) dX12_least_68 (by decide) (fun c2 => ?_) (fun c2 => ?_)
  · replace h := h.1 c2
    refine r_iinc (pc := 144) (i := 1) (v := _ + 1) dX12_least_144 rfl rfl rfl ?_
    refine r_goto (pc := 147) (tgt := 53) dX12_least_147 (by decide) ?_
    exact h
  · replace h := h.2 c2
    refine r_aload_n (pc := 71) (i := 0) dX12_least_71 rfl rfl ?_
    obtain ⟨b3, hb3, h⟩ := h
    refine r_getr (pc := 72) flX12_73 dX12_least_72 rfl k1 hb3 ?_
    refine r_bipush (pc := 75) (v := 27) dX12_least_75 (by decide) ?_
    refine r_aload_n (pc := 77) (i := 0) dX12_least_77 rfl rfl ?_
    obtain ⟨b4, hb4, h⟩ := h
    refine r_getr (pc := 78) flX12_89 dX12_least_78 rfl k1 hb4 ?_
    refine r_iload_n (pc := 81) (i := 1) dX12_least_81 rfl rfl ?_
    obtain ⟨k5, h⟩ := h
    obtain ⟨i6, h⟩ := h
    refine r_iald (pc := 82) dX12_least_82 k5 i6 ?_
    refine r_imul (pc := 83) dX12_least_83 ?_
    refine r_iload_n (pc := 84) (i := 2) dX12_least_84 rfl rfl ?_
    refine r_iadd (pc := 85) dX12_least_85 ?_
    obtain ⟨k7, h⟩ := h
    obtain ⟨i8, h⟩ := h
    refine r_iald (pc := 86) dX12_least_86 k7 i8 ?_
    refine r_istore_n (pc := 87) (i := 3) dX12_least_87 rfl rfl (Nat.le_of_ble_eq_true rfl) ?_
    refine r_aload_n (pc := 88) (i := 0) dX12_least_88 rfl rfl ?_
    obtain ⟨b9, hb9, h⟩ := h
    refine r_getr (pc := 89) flX12_92 dX12_least_89 rfl k1 hb9 ?_
    refine r_aload_n (pc := 92) (i := 0) dX12_least_92 rfl rfl ?_
    obtain ⟨b10, hb10, h⟩ := h
    refine r_getr (pc := 93) flX12_79 dX12_least_93 rfl k1 hb10 ?_
    refine r_iload_n (pc := 96) (i := 3) dX12_least_96 rfl rfl ?_
    obtain ⟨k11, h⟩ := h
    obtain ⟨i12, h⟩ := h
    refine r_iald (pc := 97) dX12_least_97 k11 i12 ?_
    obtain ⟨k13, h⟩ := h
    obtain ⟨i14, h⟩ := h
    refine r_iald (pc := 98) dX12_least_98 k13 i14 ?_
    refine r_iconst (pc := 99) (v := (-1)) dX12_least_99 (by decide) ?_
    refine r_icmp_ne (pc := 100) (tgt := 138) dX12_least_100 (by decide) (fun c15 => ?_) (fun c15 => ?_)
    · replace h := h.1 c15
      refine r_iinc (pc := 138) (i := 2) (v := _ + 1) dX12_least_138 rfl rfl rfl ?_
      refine r_goto (pc := 141) (tgt := 63) dX12_least_141 (by decide) ?_
      exact h
    · replace h := h.2 c15
      refine r_aload_n (pc := 103) (i := 0) dX12_least_103 rfl rfl ?_
      refine r_getr (pc := 104) flX12_92 dX12_least_104 rfl k1 hb9 ?_
      refine r_aload_n (pc := 107) (i := 0) dX12_least_107 rfl rfl ?_
      refine r_getr (pc := 108) flX12_79 dX12_least_108 rfl k1 hb10 ?_
      refine r_iload_n (pc := 111) (i := 3) dX12_least_111 rfl rfl ?_
      refine r_iald (pc := 112) dX12_least_112 k11 i12 ?_
      refine r_aload_n (pc := 113) (i := 0) dX12_least_113 rfl rfl ?_
      refine r_geti (pc := 114) flX12_243 dX12_least_114 (Or.inl rfl) k1 ?_
      refine r_iast (pc := 117) dX12_least_117 k13 i14 ?_
      replace h := h _ rfl
      refine r_aload_n (pc := 118) (i := 0) dX12_least_118 rfl rfl ?_
      refine r_getr (pc := 119) flX12_89 dX12_least_119 rfl k1 hb4 ?_
      refine r_aload_n (pc := 122) (i := 0) dX12_least_122 rfl rfl ?_
      refine r_geti (pc := 123) flX12_243 dX12_least_123 (Or.inl rfl) k1 ?_
      refine r_iload_n (pc := 126) (i := 3) dX12_least_126 rfl rfl ?_
      obtain ⟨i17, h⟩ := h
      refine r_iast (pc := 127) dX12_least_127 k5 i17 ?_
      replace h := h _ rfl
      refine r_aload_n (pc := 128) (i := 0) dX12_least_128 rfl rfl ?_
      refine r_dup (pc := 129) dX12_least_129 rfl ?_
      refine r_geti (pc := 130) flX12_243 dX12_least_130 (Or.inl rfl) k1 ?_
      refine r_iconst (pc := 133) (v := 1) dX12_least_133 (by decide) ?_
      refine r_iadd (pc := 134) dX12_least_134 ?_
      refine r_puti (pc := 135) flX12_243 dX12_least_135 (Or.inl rfl) (fun q hq => by cases hq; rfl) k1 ?_
      replace h := h _ rfl
      refine r_iinc (pc := 138) (i := 2) (v := _ + 1) dX12_least_138 rfl rfl rfl ?_
      refine r_goto (pc := 141) (tgt := 63) dX12_least_141 (by decide) ?_
      exact h
theorem eX12_stepOf {G : GG} {d rc rs : Nat} (o : Nat) (a1 : Int32) (a2 : Int32)  {M : Mem} {Q : Option Value → Mem → Prop} (h : (x_h M o).1 = 28 ∧ (∃ b2, x_r M o 34 = some b2 ∧ ∃ b3, x_r M o 30 = some b3 ∧ ∃ b4, x_r M o 27 = some b4 ∧ ∃ b5, x_r M o 33 = some b5 ∧ (x_h M b5).1 = 1 ∧ vp_in a1 (x_h M b5).2 ∧ (x_h M b4).1 = 1 ∧ vp_in ((27 * (x_i M b5 a1.toNatClampNeg)) + a2) (x_h M b4).2 ∧ (x_h M b3).1 = 1 ∧ vp_in (x_i M b4 ((27 * (x_i M b5 a1.toNatClampNeg)) + a2).toNatClampNeg) (x_h M b3).2 ∧ (x_h M b2).1 = 1 ∧ vp_in (x_i M b3 (x_i M b4 ((27 * (x_i M b5 a1.toNatClampNeg)) + a2).toNatClampNeg).toNatClampNeg) (x_h M b2).2 ∧ Q (some (.int (x_i M b2 (x_i M b3 (x_i M b4 ((27 * (x_i M b5 a1.toNatClampNeg)) + a2).toNatClampNeg).toNatClampNeg).toNatClampNeg))) M)) : Call G (d + 1) rc rs mX12_stepOf [.ref o, .int a1, .int a2] M Q := by
  refine call_of (by decide) (Nat.le_of_ble_eq_true rfl) ?_
  show Wk G (d + 1) rc rs mX12_stepOf 0 [some (.ref o), some (.int a1), some (.int a2)] [] M Q
  refine r_aload_n (pc := 0) (i := 0) dX12_stepOf_0 rfl rfl ?_
  obtain ⟨k1, h⟩ := h
  obtain ⟨b2, hb2, h⟩ := h
  refine r_getr (pc := 1) flX12_92 dX12_stepOf_1 rfl k1 hb2 ?_
  refine r_aload_n (pc := 4) (i := 0) dX12_stepOf_4 rfl rfl ?_
  obtain ⟨b3, hb3, h⟩ := h
  refine r_getr (pc := 5) flX12_79 dX12_stepOf_5 rfl k1 hb3 ?_
  refine r_aload_n (pc := 8) (i := 0) dX12_stepOf_8 rfl rfl ?_
  obtain ⟨b4, hb4, h⟩ := h
  refine r_getr (pc := 9) flX12_73 dX12_stepOf_9 rfl k1 hb4 ?_
  refine r_bipush (pc := 12) (v := 27) dX12_stepOf_12 (by decide) ?_
  refine r_aload_n (pc := 14) (i := 0) dX12_stepOf_14 rfl rfl ?_
  obtain ⟨b5, hb5, h⟩ := h
  refine r_getr (pc := 15) flX12_89 dX12_stepOf_15 rfl k1 hb5 ?_
  refine r_iload_n (pc := 18) (i := 1) dX12_stepOf_18 rfl rfl ?_
  obtain ⟨k6, h⟩ := h
  obtain ⟨i7, h⟩ := h
  refine r_iald (pc := 19) dX12_stepOf_19 k6 i7 ?_
  refine r_imul (pc := 20) dX12_stepOf_20 ?_
  refine r_iload_n (pc := 21) (i := 2) dX12_stepOf_21 rfl rfl ?_
  refine r_iadd (pc := 22) dX12_stepOf_22 ?_
  obtain ⟨k8, h⟩ := h
  obtain ⟨i9, h⟩ := h
  refine r_iald (pc := 23) dX12_stepOf_23 k8 i9 ?_
  obtain ⟨k10, h⟩ := h
  obtain ⟨i11, h⟩ := h
  refine r_iald (pc := 24) dX12_stepOf_24 k10 i11 ?_
  obtain ⟨k12, h⟩ := h
  obtain ⟨i13, h⟩ := h
  refine r_iald (pc := 25) dX12_stepOf_25 k12 i13 ?_
  exact r_iret (pc := 26) dX12_stepOf_26 rfl h
abbrev LX12_newRow_25 (G : GG) (d rc rs : Nat) (p0 : Nat) (x1 : Int32) (x2 : Int32) (z3 : Option Value) (M : Mem) (Q : Option Value → Mem → Prop) : Prop := Wk G (d + 1) rc rs mX12_newRow 25 [some (.ref p0), some (.int x1), some (.int x2), z3] [] M Q
abbrev LX12_newRow_60 (G : GG) (d rc rs : Nat) (p0 : Nat) (x1 : Int32) (x2 : Int32) (x3 : Int32) (M : Mem) (Q : Option Value → Mem → Prop) : Prop := Wk G (d + 1) rc rs mX12_newRow 60 [some (.ref p0), some (.int x1), some (.int x2), some (.int x3)] [] M Q
theorem eX12_newRow {G : GG} {d rc rs : Nat} (o : Nat) (a1 : Int32)  {M : Mem} {Q : Option Value → Mem → Prop} (h : (x_h M o).1 = 28 ∧ (∃ b2, x_r M o 2 = some b2 ∧ (x_h M b2).1 = 1 ∧ vp_in (x_i M o 1) (x_h M b2).2 ∧ (∀ M5, M5 = x_si M b2 (x_i M o 1).toNatClampNeg a1 → ∃ b6, x_r M5 o 3 = some b6 ∧ (x_h M b6).1 = 1 ∧ vp_in (x_i M5 o 1) (x_h M b6).2 ∧ (∀ M9, M9 = x_si M5 b6 (x_i M5 o 1).toNatClampNeg (x_i M5 o 29) → LX12_newRow_25 G d rc rs o a1 0 none M9 Q)))) : Call G (d + 1) rc rs mX12_newRow [.ref o, .int a1] M Q := by
  refine call_of (by decide) (Nat.le_of_ble_eq_true rfl) ?_
  show Wk G (d + 1) rc rs mX12_newRow 0 [some (.ref o), some (.int a1), none, none] [] M Q
  refine r_aload_n (pc := 0) (i := 0) dX12_newRow_0 rfl rfl ?_
  obtain ⟨k1, h⟩ := h
  obtain ⟨b2, hb2, h⟩ := h
  refine r_getr (pc := 1) flX12_13 dX12_newRow_1 rfl k1 hb2 ?_
  refine r_aload_n (pc := 4) (i := 0) dX12_newRow_4 rfl rfl ?_
  refine r_geti (pc := 5) flX12_215 dX12_newRow_5 (Or.inl rfl) k1 ?_
  refine r_iload_n (pc := 8) (i := 1) dX12_newRow_8 rfl rfl ?_
  obtain ⟨k3, h⟩ := h
  obtain ⟨i4, h⟩ := h
  refine r_iast (pc := 9) dX12_newRow_9 k3 i4 ?_
  replace h := h _ rfl
  refine r_aload_n (pc := 10) (i := 0) dX12_newRow_10 rfl rfl ?_
  obtain ⟨b6, hb6, h⟩ := h
  refine r_getr (pc := 11) flX12_17 dX12_newRow_11 rfl k1 hb6 ?_
  refine r_aload_n (pc := 14) (i := 0) dX12_newRow_14 rfl rfl ?_
  refine r_geti (pc := 15) flX12_215 dX12_newRow_15 (Or.inl rfl) k1 ?_
  refine r_aload_n (pc := 18) (i := 0) dX12_newRow_18 rfl rfl ?_
  refine r_geti (pc := 19) flX12_243 dX12_newRow_19 (Or.inl rfl) k1 ?_
  obtain ⟨k7, h⟩ := h
  obtain ⟨i8, h⟩ := h
  refine r_iast (pc := 22) dX12_newRow_22 k7 i8 ?_
  replace h := h _ rfl
  refine r_iconst (pc := 23) (v := 0) dX12_newRow_23 (by decide) ?_
  refine r_istore_n (pc := 24) (i := 2) dX12_newRow_24 rfl rfl (Nat.le_of_ble_eq_true rfl) ?_
  exact h
theorem vX12_newRow_25 {G : GG} {d rc rs : Nat} (p0 : Nat) (x1 : Int32) (x2 : Int32) (z3 : Option Value) (hz3 : c1 z3 = true) {M : Mem} {Q : Option Value → Mem → Prop} (h : (x_h M p0).1 = 28 ∧ ((x_i M p0 29) ≤ x2 → ∀ M3, M3 = x_si M p0 1 ((x_i M p0 1) + 1) → Call G d 0 0 mX12_done [.ref p0, .int ((x_i M3 p0 1) - 1)] M3 (fun r4 M5 => ∃ v6 : Int32, r4 = some (.int v6) ∧ Q (some (.int v6)) M5)) ∧ (¬ (x_i M p0 29) ≤ x2 → ∃ b7, x_r M p0 5 = some b7 ∧ ∃ b8, x_r M p0 28 = some b8 ∧ ∃ b9, x_r M p0 33 = some b9 ∧ (x_h M b9).1 = 1 ∧ vp_in x2 (x_h M b9).2 ∧ (x_h M b8).1 = 1 ∧ vp_in (x_i M b9 x2.toNatClampNeg) (x_h M b8).2 ∧ (x_h M b7).1 = 1 ∧ vp_in ((60 * (x_i M p0 1)) + x2) (x_h M b7).2 ∧ (∀ M16, M16 = x_si M b7 ((60 * (x_i M p0 1)) + x2).toNatClampNeg (x_i M b8 (x_i M b9 x2.toNatClampNeg).toNatClampNeg) → LX12_newRow_60 G d rc rs p0 x1 x2 0 M16 Q))) : LX12_newRow_25 G d rc rs p0 x1 x2 z3 M Q := by
  show Wk G (d + 1) rc rs mX12_newRow 25 _ _ M Q
  refine r_iload_n (pc := 25) (i := 2) dX12_newRow_25 rfl rfl ?_
  refine r_aload_n (pc := 26) (i := 0) dX12_newRow_26 rfl rfl ?_
  obtain ⟨k1, h⟩ := h
  refine r_geti (pc := 27) flX12_243 dX12_newRow_27 (Or.inl rfl) k1 ?_
  refine r_icmp_ge (pc := 30) (tgt := 104) dX12_newRow_30 (by decide) (fun c2 => ?_) (fun c2 => ?_)
  · replace h := h.1 c2
    refine r_aload_n (pc := 104) (i := 0) dX12_newRow_104 rfl rfl ?_
    refine r_dup (pc := 105) dX12_newRow_105 rfl ?_
    refine r_geti (pc := 106) flX12_215 dX12_newRow_106 (Or.inl rfl) k1 ?_
    refine r_iconst (pc := 109) (v := 1) dX12_newRow_109 (by decide) ?_
    refine r_iadd (pc := 110) dX12_newRow_110 ?_
    refine r_puti (pc := 111) flX12_215 dX12_newRow_111 (Or.inl rfl) (fun q hq => by cases hq; rfl) k1 ?_
    replace h := h _ rfl
    refine r_aload_n (pc := 114) (i := 0) dX12_newRow_114 rfl rfl ?_
    refine r_aload_n (pc := 115) (i := 0) dX12_newRow_115 rfl rfl ?_
    refine r_geti (pc := 116) flX12_215 dX12_newRow_116 (Or.inl rfl) k1 ?_
    refine r_iconst (pc := 119) (v := 1) dX12_newRow_119 (by decide) ?_
    refine r_isub (pc := 120) dX12_newRow_120 ?_
    refine r_callV (pc := 121) (ci := 12) (as := [_]) (st := []) okX12_done lkX12_250 inX12_done seX12_done ⟨_, rfl, rfl⟩ dX12_newRow_121 rfl k1 (Nat.le_of_ble_eq_true rfl) (Nat.zero_le _) (Nat.zero_le _) (Call.mono h (fun r4 M5 h => ?_))
    obtain ⟨v6, rfl, h⟩ := h
    exact r_iret (pc := 124) dX12_newRow_124 rfl h
  · replace h := h.2 c2
    refine r_aload_n (pc := 33) (i := 0) dX12_newRow_33 rfl rfl ?_
    obtain ⟨b7, hb7, h⟩ := h
    refine r_getr (pc := 34) flX12_23 dX12_newRow_34 rfl k1 hb7 ?_
    refine r_bipush (pc := 37) (v := 60) dX12_newRow_37 (by decide) ?_
    refine r_aload_n (pc := 39) (i := 0) dX12_newRow_39 rfl rfl ?_
    refine r_geti (pc := 40) flX12_215 dX12_newRow_40 (Or.inl rfl) k1 ?_
    refine r_imul (pc := 43) dX12_newRow_43 ?_
    refine r_iload_n (pc := 44) (i := 2) dX12_newRow_44 rfl rfl ?_
    refine r_iadd (pc := 45) dX12_newRow_45 ?_
    refine r_aload_n (pc := 46) (i := 0) dX12_newRow_46 rfl rfl ?_
    obtain ⟨b8, hb8, h⟩ := h
    refine r_getr (pc := 47) flX12_76 dX12_newRow_47 rfl k1 hb8 ?_
    refine r_aload_n (pc := 50) (i := 0) dX12_newRow_50 rfl rfl ?_
    obtain ⟨b9, hb9, h⟩ := h
    refine r_getr (pc := 51) flX12_89 dX12_newRow_51 rfl k1 hb9 ?_
    refine r_iload_n (pc := 54) (i := 2) dX12_newRow_54 rfl rfl ?_
    obtain ⟨k10, h⟩ := h
    obtain ⟨i11, h⟩ := h
    refine r_iald (pc := 55) dX12_newRow_55 k10 i11 ?_
    obtain ⟨k12, h⟩ := h
    obtain ⟨i13, h⟩ := h
    refine r_iald (pc := 56) dX12_newRow_56 k12 i13 ?_
    obtain ⟨k14, h⟩ := h
    obtain ⟨i15, h⟩ := h
    refine r_iast (pc := 57) dX12_newRow_57 k14 i15 ?_
    replace h := h _ rfl
    refine r_iconst (pc := 58) (v := 0) dX12_newRow_58 (by decide) ?_
    refine r_istore_n (pc := 59) (i := 3) dX12_newRow_59 rfl rfl (Nat.le_of_ble_eq_true rfl) ?_
    exact h
theorem vX12_newRow_60 {G : GG} {d rc rs : Nat} (p0 : Nat) (x1 : Int32) (x2 : Int32) (x3 : Int32)  {M : Mem} {Q : Option Value → Mem → Prop} (h : (x_h M p0).1 = 28 ∧ ((x_i M p0 0) ≤ x3 → LX12_newRow_25 G d rc rs p0 x1 (x2 + 1) (some (.int x3)) M Q) ∧ (¬ (x_i M p0 0) ≤ x3 → ∃ b3, x_r M p0 4 = some b3 ∧ Call G d 0 0 mX12_stepOf [.ref p0, .int x2, .int x3] M (fun r4 M5 => ∃ v6 : Int32, r4 = some (.int v6) ∧ (x_h M5 b3).1 = 1 ∧ vp_in ((3 * ((60 * (x_i M p0 1)) + x2)) + x3) (x_h M5 b3).2 ∧ (∀ M9, M9 = x_si M5 b3 ((3 * ((60 * (x_i M p0 1)) + x2)) + x3).toNatClampNeg v6 → LX12_newRow_60 G d rc rs p0 x1 x2 (x3 + 1) M9 Q)))) : LX12_newRow_60 G d rc rs p0 x1 x2 x3 M Q := by
  show Wk G (d + 1) rc rs mX12_newRow 60 _ _ M Q
  refine r_iload_n (pc := 60) (i := 3) dX12_newRow_60 rfl rfl ?_
  refine r_aload_n (pc := 61) (i := 0) dX12_newRow_61 rfl rfl ?_
  obtain ⟨k1, h⟩ := h
  refine r_geti (pc := 62) flX12_7 dX12_newRow_62 (Or.inl rfl) k1 ?_
  refine r_icmp_ge (pc := 65) (tgt := 98) dX12_newRow_65 (by decide) (fun c2 => ?_) (fun c2 => ?_)
  · replace h := h.1 c2
    refine r_iinc (pc := 98) (i := 2) (v := _ + 1) dX12_newRow_98 rfl rfl rfl ?_
    refine r_goto (pc := 101) (tgt := 25) dX12_newRow_101 (by decide) ?_
    exact h
  · replace h := h.2 c2
    refine r_aload_n (pc := 68) (i := 0) dX12_newRow_68 rfl rfl ?_
    obtain ⟨b3, hb3, h⟩ := h
    refine r_getr (pc := 69) flX12_20 dX12_newRow_69 rfl k1 hb3 ?_
    refine r_iconst (pc := 72) (v := 3) dX12_newRow_72 (by decide) ?_
    refine r_bipush (pc := 73) (v := 60) dX12_newRow_73 (by decide) ?_
    refine r_aload_n (pc := 75) (i := 0) dX12_newRow_75 rfl rfl ?_
    refine r_geti (pc := 76) flX12_215 dX12_newRow_76 (Or.inl rfl) k1 ?_
    refine r_imul (pc := 79) dX12_newRow_79 ?_
    refine r_iload_n (pc := 80) (i := 2) dX12_newRow_80 rfl rfl ?_
    refine r_iadd (pc := 81) dX12_newRow_81 ?_
    refine r_imul (pc := 82) dX12_newRow_82 ?_
    refine r_iload_n (pc := 83) (i := 3) dX12_newRow_83 rfl rfl ?_
    refine r_iadd (pc := 84) dX12_newRow_84 ?_
    refine r_aload_n (pc := 85) (i := 0) dX12_newRow_85 rfl rfl ?_
    refine r_iload_n (pc := 86) (i := 2) dX12_newRow_86 rfl rfl ?_
    refine r_iload_n (pc := 87) (i := 3) dX12_newRow_87 rfl rfl ?_
    refine r_callV (pc := 88) (ci := 12) (as := [_, _]) (st := [_, _]) okX12_stepOf lkX12_246 inX12_stepOf seX12_stepOf ⟨_, rfl, rfl⟩ dX12_newRow_88 rfl k1 (Nat.le_of_ble_eq_true rfl) (Nat.zero_le _) (Nat.zero_le _) (Call.mono h (fun r4 M5 h => ?_))
    obtain ⟨v6, rfl, h⟩ := h
    obtain ⟨k7, h⟩ := h
    obtain ⟨i8, h⟩ := h
    refine r_iast (pc := 91) dX12_newRow_91 k7 i8 ?_
    replace h := h _ rfl
    refine r_iinc (pc := 92) (i := 3) (v := _ + 1) dX12_newRow_92 rfl rfl rfl ?_
    refine r_goto (pc := 95) (tgt := 60) dX12_newRow_95 (by decide) ?_
    exact h
theorem eX12_rowTo {G : GG} {d rc rs : Nat} (o : Nat) (a1 : Int32) (a2 : Int32) (a3 : Int32)  {M : Mem} {Q : Option Value → Mem → Prop} (h : (x_h M o).1 = 28 ∧ (∃ b2, x_r M o 4 = some b2 ∧ (x_h M b2).1 = 1 ∧ vp_in ((3 * ((60 * a1) + a2)) + a3) (x_h M b2).2 ∧ Q (some (.int (x_i M b2 ((3 * ((60 * a1) + a2)) + a3).toNatClampNeg))) M)) : Call G (d + 1) rc rs mX12_rowTo [.ref o, .int a1, .int a2, .int a3] M Q := by
  refine call_of (by decide) (Nat.le_of_ble_eq_true rfl) ?_
  show Wk G (d + 1) rc rs mX12_rowTo 0 [some (.ref o), some (.int a1), some (.int a2), some (.int a3)] [] M Q
  refine r_aload_n (pc := 0) (i := 0) dX12_rowTo_0 rfl rfl ?_
  obtain ⟨k1, h⟩ := h
  obtain ⟨b2, hb2, h⟩ := h
  refine r_getr (pc := 1) flX12_20 dX12_rowTo_1 rfl k1 hb2 ?_
  refine r_iconst (pc := 4) (v := 3) dX12_rowTo_4 (by decide) ?_
  refine r_bipush (pc := 5) (v := 60) dX12_rowTo_5 (by decide) ?_
  refine r_iload_n (pc := 7) (i := 1) dX12_rowTo_7 rfl rfl ?_
  refine r_imul (pc := 8) dX12_rowTo_8 ?_
  refine r_iload_n (pc := 9) (i := 2) dX12_rowTo_9 rfl rfl ?_
  refine r_iadd (pc := 10) dX12_rowTo_10 ?_
  refine r_imul (pc := 11) dX12_rowTo_11 ?_
  refine r_iload_n (pc := 12) (i := 3) dX12_rowTo_12 rfl rfl ?_
  refine r_iadd (pc := 13) dX12_rowTo_13 ?_
  obtain ⟨k3, h⟩ := h
  obtain ⟨i4, h⟩ := h
  refine r_iald (pc := 14) dX12_rowTo_14 k3 i4 ?_
  exact r_iret (pc := 15) dX12_rowTo_15 rfl h
theorem eX12_begin {G : GG} {d rc rs : Nat} (o : Nat) (a1 : Int32)  {M : Mem} {Q : Option Value → Mem → Prop} (h : Call G d 0 0 mX12_in [.int a1, .int 2, .int 3] M (fun r1 M2 => ∃ v3 : Int32, r1 = some (.int v3) ∧ (¬ v3 = 0 → (x_h M2 o).1 = 28 ∧ (∀ M6, M6 = x_si M2 o 0 a1 → ∀ M7, M7 = x_si M6 o 1 0 → ∀ M8, M8 = x_si M7 o 7 0 → Call G d 0 0 mX12_done [.ref o, .int 1] M8 (fun r9 M10 => ∃ v11 : Int32, r9 = some (.int v11) ∧ Q (some (.int v11)) M10))) ∧ (v3 = 0 → (x_h M2 o).1 = 28 ∧ Call G d 0 0 mX12_refused [.ref o, .int 1] M2 (fun r13 M14 => ∃ v15 : Int32, r13 = some (.int v15) ∧ Q (some (.int v15)) M14)))) : Call G (d + 1) rc rs mX12_begin [.ref o, .int a1] M Q := by
  refine call_of (by decide) (Nat.le_of_ble_eq_true rfl) ?_
  show Wk G (d + 1) rc rs mX12_begin 0 [some (.ref o), some (.int a1)] [] M Q
  refine r_iload_n (pc := 0) (i := 1) dX12_begin_0 rfl rfl ?_
  refine r_iconst (pc := 1) (v := 2) dX12_begin_1 (by decide) ?_
  refine r_iconst (pc := 2) (v := 3) dX12_begin_2 (by decide) ?_
  refine r_callS (pc := 3) (as := [_, _, _]) (st := []) okX12_in lkX12_218 stX12_in dX12_begin_3 rfl (Nat.le_of_ble_eq_true rfl) (Nat.zero_le _) (Nat.zero_le _) (Call.mono h (fun r1 M2 h => ?_))
  obtain ⟨v3, rfl, h⟩ := h
  refine r_if_ne (pc := 6) (tgt := 15) dX12_begin_6 (by decide) (fun c4 => ?_) (fun c4 => ?_)
  · replace h := h.1 c4
    refine r_aload_n (pc := 15) (i := 0) dX12_begin_15 rfl rfl ?_
    refine r_iload_n (pc := 16) (i := 1) dX12_begin_16 rfl rfl ?_
    obtain ⟨k5, h⟩ := h
    refine r_puti (pc := 17) flX12_7 dX12_begin_17 (Or.inl rfl) (fun q hq => by cases hq; rfl) k5 ?_
    replace h := h _ rfl
    refine r_aload_n (pc := 20) (i := 0) dX12_begin_20 rfl rfl ?_
    refine r_iconst (pc := 21) (v := 0) dX12_begin_21 (by decide) ?_
    refine r_puti (pc := 22) flX12_215 dX12_begin_22 (Or.inl rfl) (fun q hq => by cases hq; rfl) k5 ?_
    replace h := h _ rfl
    refine r_aload_n (pc := 25) (i := 0) dX12_begin_25 rfl rfl ?_
    refine r_iconst (pc := 26) (v := 0) dX12_begin_26 (by decide) ?_
    refine r_puti (pc := 27) flX12_256 dX12_begin_27 (Or.inl rfl) (fun q hq => by cases hq; rfl) k5 ?_
    replace h := h _ rfl
    refine r_aload_n (pc := 30) (i := 0) dX12_begin_30 rfl rfl ?_
    refine r_iconst (pc := 31) (v := 1) dX12_begin_31 (by decide) ?_
    refine r_callV (pc := 32) (ci := 12) (as := [_]) (st := []) okX12_done lkX12_250 inX12_done seX12_done ⟨_, rfl, rfl⟩ dX12_begin_32 rfl k5 (Nat.le_of_ble_eq_true rfl) (Nat.zero_le _) (Nat.zero_le _) (Call.mono h (fun r9 M10 h => ?_))
    obtain ⟨v11, rfl, h⟩ := h
    exact r_iret (pc := 35) dX12_begin_35 rfl h
  · replace h := h.2 c4
    refine r_aload_n (pc := 9) (i := 0) dX12_begin_9 rfl rfl ?_
    refine r_iconst (pc := 10) (v := 1) dX12_begin_10 (by decide) ?_
    obtain ⟨k12, h⟩ := h
    refine r_callV (pc := 11) (ci := 12) (as := [_]) (st := []) okX12_refused lkX12_253 inX12_refused seX12_refused ⟨_, rfl, rfl⟩ dX12_begin_11 rfl k12 (Nat.le_of_ble_eq_true rfl) (Nat.zero_le _) (Nat.zero_le _) (Call.mono h (fun r13 M14 h => ?_))
    obtain ⟨v15, rfl, h⟩ := h
    exact r_iret (pc := 14) dX12_begin_14 rfl h
abbrev LX12_sheet_65 (G : GG) (d rc rs : Nat) (p0 : Nat) (x1 : Int32) (x2 : Int32) (x3 : Int32) (x4 : Int32) (M : Mem) (Q : Option Value → Mem → Prop) : Prop := Wk G (d + 1) rc rs mX12_sheet 65 [some (.ref p0), some (.int x1), some (.int x2), some (.int x3), some (.int x4)] [] M Q
theorem eX12_sheet {G : GG} {d rc rs : Nat} (o : Nat) (a1 : Int32) (a2 : Int32) (a3 : Int32)  {M : Mem} {Q : Option Value → Mem → Prop} (h : Call G d 0 0 mX12_in [.int a1, .int 0, .int 5] M (fun r1 M2 => ∃ v3 : Int32, r1 = some (.int v3) ∧ (v3 = 0 → (x_h M2 o).1 = 28 ∧ Call G d 0 0 mX12_refused [.ref o, .int 1] M2 (fun r6 M7 => ∃ v8 : Int32, r6 = some (.int v8) ∧ Q (some (.int v8)) M7)) ∧ (¬ v3 = 0 → Call G d 0 0 mX12_in [.int a2, .int (-1), .int 2] M2 (fun r9 M10 => ∃ v11 : Int32, r9 = some (.int v11) ∧ (v11 = 0 → (x_h M10 o).1 = 28 ∧ Call G d 0 0 mX12_refused [.ref o, .int 1] M10 (fun r14 M15 => ∃ v16 : Int32, r14 = some (.int v16) ∧ Q (some (.int v16)) M15)) ∧ (¬ v11 = 0 → (a2 = (-1) → (x_h M10 o).1 = 28 ∧ (∃ b19, x_r M10 o 19 = some b19 ∧ (x_h M10 b19).1 = 1 ∧ vp_in a1 (x_h M10 b19).2 ∧ (∀ M22, M22 = x_si M10 b19 a1.toNatClampNeg a2 → ∃ b23, x_r M22 o 20 = some b23 ∧ (¬ a2 = (-1) → (x_h M10 b23).1 = 1 ∧ vp_in a1 (x_h M10 b23).2 ∧ (∀ M27, M27 = x_si M22 b23 a1.toNatClampNeg a3 → LX12_sheet_65 G d rc rs o a1 a2 a3 0 M27 Q)) ∧ (a2 = (-1) → (x_h M10 b23).1 = 1 ∧ vp_in a1 (x_h M10 b23).2 ∧ (∀ M30, M30 = x_si M22 b23 a1.toNatClampNeg 0 → LX12_sheet_65 G d rc rs o a1 a2 a3 0 M30 Q))))) ∧ (¬ a2 = (-1) → Call G d 0 0 mX12_in [.int a3, .int 0, .int 40] M10 (fun r31 M32 => ∃ v33 : Int32, r31 = some (.int v33) ∧ (¬ v33 = 0 → (x_h M32 o).1 = 28 ∧ (∃ b36, x_r M32 o 19 = some b36 ∧ (x_h M32 b36).1 = 1 ∧ vp_in a1 (x_h M32 b36).2 ∧ (∀ M39, M39 = x_si M32 b36 a1.toNatClampNeg a2 → ∃ b40, x_r M39 o 20 = some b40 ∧ (¬ a2 = (-1) → (x_h M32 b40).1 = 1 ∧ vp_in a1 (x_h M32 b40).2 ∧ (∀ M44, M44 = x_si M39 b40 a1.toNatClampNeg a3 → LX12_sheet_65 G d rc rs o a1 a2 a3 0 M44 Q)) ∧ (a2 = (-1) → (x_h M32 b40).1 = 1 ∧ vp_in a1 (x_h M32 b40).2 ∧ (∀ M47, M47 = x_si M39 b40 a1.toNatClampNeg 0 → LX12_sheet_65 G d rc rs o a1 a2 a3 0 M47 Q))))) ∧ (v33 = 0 → (x_h M32 o).1 = 28 ∧ Call G d 0 0 mX12_refused [.ref o, .int 1] M32 (fun r49 M50 => ∃ v51 : Int32, r49 = some (.int v51) ∧ Q (some (.int v51)) M50))))))))) : Call G (d + 1) rc rs mX12_sheet [.ref o, .int a1, .int a2, .int a3] M Q := by
  refine call_of (by decide) (Nat.le_of_ble_eq_true rfl) ?_
  show Wk G (d + 1) rc rs mX12_sheet 0 [some (.ref o), some (.int a1), some (.int a2), some (.int a3), none] [] M Q
  refine r_iload_n (pc := 0) (i := 1) dX12_sheet_0 rfl rfl ?_
  refine r_iconst (pc := 1) (v := 0) dX12_sheet_1 (by decide) ?_
  refine r_iconst (pc := 2) (v := 5) dX12_sheet_2 (by decide) ?_
  refine r_callS (pc := 3) (as := [_, _, _]) (st := []) okX12_in lkX12_218 stX12_in dX12_sheet_3 rfl (Nat.le_of_ble_eq_true rfl) (Nat.zero_le _) (Nat.zero_le _) (Call.mono h (fun r1 M2 h => ?_))
  obtain ⟨v3, rfl, h⟩ := h
  refine r_if_eq (pc := 6) (tgt := 33) dX12_sheet_6 (by decide) (fun c4 => ?_) (fun c4 => ?_)
  · replace h := h.1 c4
    refine r_aload_n (pc := 33) (i := 0) dX12_sheet_33 rfl rfl ?_
    refine r_iconst (pc := 34) (v := 1) dX12_sheet_34 (by decide) ?_
    obtain ⟨k5, h⟩ := h
    refine r_callV (pc := 35) (ci := 12) (as := [_]) (st := []) okX12_refused lkX12_253 inX12_refused seX12_refused ⟨_, rfl, rfl⟩ dX12_sheet_35 rfl k5 (Nat.le_of_ble_eq_true rfl) (Nat.zero_le _) (Nat.zero_le _) (Call.mono h (fun r6 M7 h => ?_))
    obtain ⟨v8, rfl, h⟩ := h
    exact r_iret (pc := 38) dX12_sheet_38 rfl h
  · replace h := h.2 c4
    refine r_iload_n (pc := 9) (i := 2) dX12_sheet_9 rfl rfl ?_
    refine r_iconst (pc := 10) (v := (-1)) dX12_sheet_10 (by decide) ?_
    refine r_iconst (pc := 11) (v := 2) dX12_sheet_11 (by decide) ?_
    refine r_callS (pc := 12) (as := [_, _, _]) (st := []) okX12_in lkX12_218 stX12_in dX12_sheet_12 rfl (Nat.le_of_ble_eq_true rfl) (Nat.zero_le _) (Nat.zero_le _) (Call.mono h (fun r9 M10 h => ?_))
    obtain ⟨v11, rfl, h⟩ := h
    refine r_if_eq (pc := 15) (tgt := 33) dX12_sheet_15 (by decide) (fun c12 => ?_) (fun c12 => ?_)
    · replace h := h.1 c12
      refine r_aload_n (pc := 33) (i := 0) dX12_sheet_33 rfl rfl ?_
      refine r_iconst (pc := 34) (v := 1) dX12_sheet_34 (by decide) ?_
      obtain ⟨k13, h⟩ := h
      refine r_callV (pc := 35) (ci := 12) (as := [_]) (st := []) okX12_refused lkX12_253 inX12_refused seX12_refused ⟨_, rfl, rfl⟩ dX12_sheet_35 rfl k13 (Nat.le_of_ble_eq_true rfl) (Nat.zero_le _) (Nat.zero_le _) (Call.mono h (fun r14 M15 h => ?_))
      obtain ⟨v16, rfl, h⟩ := h
      exact r_iret (pc := 38) dX12_sheet_38 rfl h
    · replace h := h.2 c12
      refine r_iload_n (pc := 18) (i := 2) dX12_sheet_18 rfl rfl ?_
      refine r_iconst (pc := 19) (v := (-1)) dX12_sheet_19 (by decide) ?_
      refine r_icmp_eq (pc := 20) (tgt := 39) dX12_sheet_20 (by decide) (fun c17 => ?_) (fun c17 => ?_)
      · replace h := h.1 c17
        refine r_aload_n (pc := 39) (i := 0) dX12_sheet_39 rfl rfl ?_
        obtain ⟨k18, h⟩ := h
        obtain ⟨b19, hb19, h⟩ := h
        refine r_getr (pc := 40) flX12_60 dX12_sheet_40 rfl k18 hb19 ?_
        refine r_iload_n (pc := 43) (i := 1) dX12_sheet_43 rfl rfl ?_
        refine r_iload_n (pc := 44) (i := 2) dX12_sheet_44 rfl rfl ?_
        obtain ⟨k20, h⟩ := h
        obtain ⟨i21, h⟩ := h
        refine r_iast (pc := 45) dX12_sheet_45 k20 i21 ?_
        replace h := h _ rfl
        refine r_aload_n (pc := 46) (i := 0) dX12_sheet_46 rfl rfl ?_
        obtain ⟨b23, hb23, h⟩ := h
        refine r_getr (pc := 47) flX12_63 dX12_sheet_47 rfl k18 hb23 ?_
        refine r_iload_n (pc := 50) (i := 1) dX12_sheet_50 rfl rfl ?_
        refine r_iload_n (pc := 51) (i := 2) dX12_sheet_51 rfl rfl ?_
        refine r_iconst (pc := 52) (v := (-1)) dX12_sheet_52 (by decide) ?_
        refine r_icmp_ne (pc := 53) (tgt := 60) dX12_sheet_53 (by decide) (fun c24 => ?_) (fun c24 => ?_)
        · replace h := h.1 c24
          refine r_iload_n (pc := 60) (i := 3) dX12_sheet_60 rfl rfl ?_
          obtain ⟨k25, h⟩ := h
          obtain ⟨i26, h⟩ := h
          refine r_iast (pc := 61) dX12_sheet_61 k25 i26 ?_
          replace h := h _ rfl
          refine r_iconst (pc := 62) (v := 0) dX12_sheet_62 (by decide) ?_
          refine r_istore (pc := 63) (i := 4) dX12_sheet_63 rfl (Nat.le_of_ble_eq_true rfl) ?_
          exact h
        · replace h := h.2 c24
          refine r_iconst (pc := 56) (v := 0) dX12_sheet_56 (by decide) ?_
          refine r_goto (pc := 57) (tgt := 61) dX12_sheet_57 (by decide) ?_
          obtain ⟨k28, h⟩ := h
          obtain ⟨i29, h⟩ := h
          refine r_iast (pc := 61) dX12_sheet_61 k28 i29 ?_
          replace h := h _ rfl
          refine r_iconst (pc := 62) (v := 0) dX12_sheet_62 (by decide) ?_
          refine r_istore (pc := 63) (i := 4) dX12_sheet_63 rfl (Nat.le_of_ble_eq_true rfl) ?_
          exact h
      · replace h := h.2 c17
        refine r_iload_n (pc := 23) (i := 3) dX12_sheet_23 rfl rfl ?_
        refine r_iconst (pc := 24) (v := 0) dX12_sheet_24 (by decide) ?_
        refine r_bipush (pc := 25) (v := 40) dX12_sheet_25 (by decide) ?_
        refine r_callS (pc := 27) (as := [_, _, _]) (st := []) okX12_in lkX12_218 stX12_in dX12_sheet_27 rfl (Nat.le_of_ble_eq_true rfl) (Nat.zero_le _) (Nat.zero_le _) (Call.mono h (fun r31 M32 h => ?_))
        obtain ⟨v33, rfl, h⟩ := h
        refine r_if_ne (pc := 30) (tgt := 39) dX12_sheet_30 (by decide) (fun c34 => ?_) (fun c34 => ?_)
        · replace h := h.1 c34
          refine r_aload_n (pc := 39) (i := 0) dX12_sheet_39 rfl rfl ?_
          obtain ⟨k35, h⟩ := h
          obtain ⟨b36, hb36, h⟩ := h
          refine r_getr (pc := 40) flX12_60 dX12_sheet_40 rfl k35 hb36 ?_
          refine r_iload_n (pc := 43) (i := 1) dX12_sheet_43 rfl rfl ?_
          refine r_iload_n (pc := 44) (i := 2) dX12_sheet_44 rfl rfl ?_
          obtain ⟨k37, h⟩ := h
          obtain ⟨i38, h⟩ := h
          refine r_iast (pc := 45) dX12_sheet_45 k37 i38 ?_
          replace h := h _ rfl
          refine r_aload_n (pc := 46) (i := 0) dX12_sheet_46 rfl rfl ?_
          obtain ⟨b40, hb40, h⟩ := h
          refine r_getr (pc := 47) flX12_63 dX12_sheet_47 rfl k35 hb40 ?_
          refine r_iload_n (pc := 50) (i := 1) dX12_sheet_50 rfl rfl ?_
          refine r_iload_n (pc := 51) (i := 2) dX12_sheet_51 rfl rfl ?_
          refine r_iconst (pc := 52) (v := (-1)) dX12_sheet_52 (by decide) ?_
          refine r_icmp_ne (pc := 53) (tgt := 60) dX12_sheet_53 (by decide) (fun c41 => ?_) (fun c41 => ?_)
          · replace h := h.1 c41
            refine r_iload_n (pc := 60) (i := 3) dX12_sheet_60 rfl rfl ?_
            obtain ⟨k42, h⟩ := h
            obtain ⟨i43, h⟩ := h
            refine r_iast (pc := 61) dX12_sheet_61 k42 i43 ?_
            replace h := h _ rfl
            refine r_iconst (pc := 62) (v := 0) dX12_sheet_62 (by decide) ?_
            refine r_istore (pc := 63) (i := 4) dX12_sheet_63 rfl (Nat.le_of_ble_eq_true rfl) ?_
            exact h
          · replace h := h.2 c41
            refine r_iconst (pc := 56) (v := 0) dX12_sheet_56 (by decide) ?_
            refine r_goto (pc := 57) (tgt := 61) dX12_sheet_57 (by decide) ?_
            obtain ⟨k45, h⟩ := h
            obtain ⟨i46, h⟩ := h
            refine r_iast (pc := 61) dX12_sheet_61 k45 i46 ?_
            replace h := h _ rfl
            refine r_iconst (pc := 62) (v := 0) dX12_sheet_62 (by decide) ?_
            refine r_istore (pc := 63) (i := 4) dX12_sheet_63 rfl (Nat.le_of_ble_eq_true rfl) ?_
            exact h
        · replace h := h.2 c34
          refine r_aload_n (pc := 33) (i := 0) dX12_sheet_33 rfl rfl ?_
          refine r_iconst (pc := 34) (v := 1) dX12_sheet_34 (by decide) ?_
          obtain ⟨k48, h⟩ := h
          refine r_callV (pc := 35) (ci := 12) (as := [_]) (st := []) okX12_refused lkX12_253 inX12_refused seX12_refused ⟨_, rfl, rfl⟩ dX12_sheet_35 rfl k48 (Nat.le_of_ble_eq_true rfl) (Nat.zero_le _) (Nat.zero_le _) (Call.mono h (fun r49 M50 h => ?_))
          obtain ⟨v51, rfl, h⟩ := h
          exact r_iret (pc := 38) dX12_sheet_38 rfl h
theorem vX12_sheet_65 {G : GG} {d rc rs : Nat} (p0 : Nat) (x1 : Int32) (x2 : Int32) (x3 : Int32) (x4 : Int32)  {M : Mem} {Q : Option Value → Mem → Prop} (h : (40 ≤ x4 → (x_h M p0).1 = 28 ∧ Call G d 0 0 mX12_done [.ref p0, .int 1] M (fun r3 M4 => ∃ v5 : Int32, r3 = some (.int v5) ∧ Q (some (.int v5)) M4)) ∧ (¬ 40 ≤ x4 → (x_h M p0).1 = 28 ∧ (∃ b7, x_r M p0 21 = some b7 ∧ (x_h M b7).1 = 1 ∧ vp_in ((40 * x1) + x4) (x_h M b7).2 ∧ (∀ M10, M10 = x_si M b7 ((40 * x1) + x4).toNatClampNeg 0 → LX12_sheet_65 G d rc rs p0 x1 x2 x3 (x4 + 1) M10 Q)))) : LX12_sheet_65 G d rc rs p0 x1 x2 x3 x4 M Q := by
  show Wk G (d + 1) rc rs mX12_sheet 65 _ _ M Q
  refine r_iload (pc := 65) (i := 4) dX12_sheet_65 rfl ?_
  refine r_bipush (pc := 67) (v := 40) dX12_sheet_67 (by decide) ?_
  refine r_icmp_ge (pc := 69) (tgt := 91) dX12_sheet_69 (by decide) (fun c1 => ?_) (fun c1 => ?_)
  · replace h := h.1 c1
    refine r_aload_n (pc := 91) (i := 0) dX12_sheet_91 rfl rfl ?_
    refine r_iconst (pc := 92) (v := 1) dX12_sheet_92 (by decide) ?_
    obtain ⟨k2, h⟩ := h
    refine r_callV (pc := 93) (ci := 12) (as := [_]) (st := []) okX12_done lkX12_250 inX12_done seX12_done ⟨_, rfl, rfl⟩ dX12_sheet_93 rfl k2 (Nat.le_of_ble_eq_true rfl) (Nat.zero_le _) (Nat.zero_le _) (Call.mono h (fun r3 M4 h => ?_))
    obtain ⟨v5, rfl, h⟩ := h
    exact r_iret (pc := 96) dX12_sheet_96 rfl h
  · replace h := h.2 c1
    refine r_aload_n (pc := 72) (i := 0) dX12_sheet_72 rfl rfl ?_
    obtain ⟨k6, h⟩ := h
    obtain ⟨b7, hb7, h⟩ := h
    refine r_getr (pc := 73) flX12_66 dX12_sheet_73 rfl k6 hb7 ?_
    refine r_bipush (pc := 76) (v := 40) dX12_sheet_76 (by decide) ?_
    refine r_iload_n (pc := 78) (i := 1) dX12_sheet_78 rfl rfl ?_
    refine r_imul (pc := 79) dX12_sheet_79 ?_
    refine r_iload (pc := 80) (i := 4) dX12_sheet_80 rfl ?_
    refine r_iadd (pc := 82) dX12_sheet_82 ?_
    refine r_iconst (pc := 83) (v := 0) dX12_sheet_83 (by decide) ?_
    obtain ⟨k8, h⟩ := h
    obtain ⟨i9, h⟩ := h
    refine r_iast (pc := 84) dX12_sheet_84 k8 i9 ?_
    replace h := h _ rfl
    refine r_iinc (pc := 85) (i := 4) (v := _ + 1) dX12_sheet_85 rfl rfl rfl ?_
    refine r_goto (pc := 88) (tgt := 65) dX12_sheet_88 (by decide) ?_
    exact h
theorem eX12_cell {G : GG} {d rc rs : Nat} (o : Nat) (a1 : Int32) (a2 : Int32) (a3 : Int32)  {M : Mem} {Q : Option Value → Mem → Prop} (h : Call G d 0 0 mX12_in [.int a1, .int 0, .int 5] M (fun r1 M2 => ∃ v3 : Int32, r1 = some (.int v3) ∧ (v3 = 0 → (x_h M2 o).1 = 28 ∧ Call G d 0 0 mX12_refused [.ref o, .int 1] M2 (fun r6 M7 => ∃ v8 : Int32, r6 = some (.int v8) ∧ Q (some (.int v8)) M7)) ∧ (¬ v3 = 0 → Call G d 0 0 mX12_in [.int a3, .int 0, .int 100] M2 (fun r9 M10 => ∃ v11 : Int32, r9 = some (.int v11) ∧ (¬ v11 = 0 → (x_h M10 o).1 = 28 ∧ (∃ b14, x_r M10 o 19 = some b14 ∧ (x_h M10 b14).1 = 1 ∧ vp_in a1 (x_h M10 b14).2 ∧ (¬ (x_i M10 b14 a1.toNatClampNeg) = (-1) → ∃ b18, x_r M10 o 20 = some b18 ∧ (x_h M10 b18).1 = 1 ∧ vp_in a1 (x_h M10 b18).2 ∧ Call G d 0 0 mX12_in [.int a2, .int 0, .int ((x_i M10 b18 a1.toNatClampNeg) - 1)] M10 (fun r21 M22 => ∃ v23 : Int32, r21 = some (.int v23) ∧ (¬ v23 = 0 → (x_h M22 o).1 = 28 ∧ (∃ b26, x_r M22 o 21 = some b26 ∧ (x_h M22 b26).1 = 1 ∧ vp_in ((40 * a1) + a2) (x_h M22 b26).2 ∧ (∀ M29, M29 = x_si M22 b26 ((40 * a1) + a2).toNatClampNeg a3 → Call G d 0 0 mX12_done [.ref o, .int 1] M29 (fun r30 M31 => ∃ v32 : Int32, r30 = some (.int v32) ∧ Q (some (.int v32)) M31)))) ∧ (v23 = 0 → (x_h M22 o).1 = 28 ∧ Call G d 0 0 mX12_refused [.ref o, .int 12] M22 (fun r34 M35 => ∃ v36 : Int32, r34 = some (.int v36) ∧ Q (some (.int v36)) M35)))) ∧ ((x_i M10 b14 a1.toNatClampNeg) = (-1) → Call G d 0 0 mX12_refused [.ref o, .int 10] M10 (fun r37 M38 => ∃ v39 : Int32, r37 = some (.int v39) ∧ Q (some (.int v39)) M38)))) ∧ (v11 = 0 → (x_h M10 o).1 = 28 ∧ Call G d 0 0 mX12_refused [.ref o, .int 1] M10 (fun r41 M42 => ∃ v43 : Int32, r41 = some (.int v43) ∧ Q (some (.int v43)) M42)))))) : Call G (d + 1) rc rs mX12_cell [.ref o, .int a1, .int a2, .int a3] M Q := by
  refine call_of (by decide) (Nat.le_of_ble_eq_true rfl) ?_
  show Wk G (d + 1) rc rs mX12_cell 0 [some (.ref o), some (.int a1), some (.int a2), some (.int a3)] [] M Q
  refine r_iload_n (pc := 0) (i := 1) dX12_cell_0 rfl rfl ?_
  refine r_iconst (pc := 1) (v := 0) dX12_cell_1 (by decide) ?_
  refine r_iconst (pc := 2) (v := 5) dX12_cell_2 (by decide) ?_
  refine r_callS (pc := 3) (as := [_, _, _]) (st := []) okX12_in lkX12_218 stX12_in dX12_cell_3 rfl (Nat.le_of_ble_eq_true rfl) (Nat.zero_le _) (Nat.zero_le _) (Call.mono h (fun r1 M2 h => ?_))
  obtain ⟨v3, rfl, h⟩ := h
  refine r_if_eq (pc := 6) (tgt := 19) dX12_cell_6 (by decide) (fun c4 => ?_) (fun c4 => ?_)
  · replace h := h.1 c4
    refine r_aload_n (pc := 19) (i := 0) dX12_cell_19 rfl rfl ?_
    refine r_iconst (pc := 20) (v := 1) dX12_cell_20 (by decide) ?_
    obtain ⟨k5, h⟩ := h
    refine r_callV (pc := 21) (ci := 12) (as := [_]) (st := []) okX12_refused lkX12_253 inX12_refused seX12_refused ⟨_, rfl, rfl⟩ dX12_cell_21 rfl k5 (Nat.le_of_ble_eq_true rfl) (Nat.zero_le _) (Nat.zero_le _) (Call.mono h (fun r6 M7 h => ?_))
    obtain ⟨v8, rfl, h⟩ := h
    exact r_iret (pc := 24) dX12_cell_24 rfl h
  · replace h := h.2 c4
    refine r_iload_n (pc := 9) (i := 3) dX12_cell_9 rfl rfl ?_
    refine r_iconst (pc := 10) (v := 0) dX12_cell_10 (by decide) ?_
    refine r_bipush (pc := 11) (v := 100) dX12_cell_11 (by decide) ?_
    refine r_callS (pc := 13) (as := [_, _, _]) (st := []) okX12_in lkX12_218 stX12_in dX12_cell_13 rfl (Nat.le_of_ble_eq_true rfl) (Nat.zero_le _) (Nat.zero_le _) (Call.mono h (fun r9 M10 h => ?_))
    obtain ⟨v11, rfl, h⟩ := h
    refine r_if_ne (pc := 16) (tgt := 25) dX12_cell_16 (by decide) (fun c12 => ?_) (fun c12 => ?_)
    · replace h := h.1 c12
      refine r_aload_n (pc := 25) (i := 0) dX12_cell_25 rfl rfl ?_
      obtain ⟨k13, h⟩ := h
      obtain ⟨b14, hb14, h⟩ := h
      refine r_getr (pc := 26) flX12_60 dX12_cell_26 rfl k13 hb14 ?_
      refine r_iload_n (pc := 29) (i := 1) dX12_cell_29 rfl rfl ?_
      obtain ⟨k15, h⟩ := h
      obtain ⟨i16, h⟩ := h
      refine r_iald (pc := 30) dX12_cell_30 k15 i16 ?_
      refine r_iconst (pc := 31) (v := (-1)) dX12_cell_31 (by decide) ?_
      refine r_icmp_ne (pc := 32) (tgt := 42) dX12_cell_32 (by decide) (fun c17 => ?_) (fun c17 => ?_)
      · replace h := h.1 c17
        refine r_iload_n (pc := 42) (i := 2) dX12_cell_42 rfl rfl ?_
        refine r_iconst (pc := 43) (v := 0) dX12_cell_43 (by decide) ?_
        refine r_aload_n (pc := 44) (i := 0) dX12_cell_44 rfl rfl ?_
        obtain ⟨b18, hb18, h⟩ := h
        refine r_getr (pc := 45) flX12_63 dX12_cell_45 rfl k13 hb18 ?_
        refine r_iload_n (pc := 48) (i := 1) dX12_cell_48 rfl rfl ?_
        obtain ⟨k19, h⟩ := h
        obtain ⟨i20, h⟩ := h
        refine r_iald (pc := 49) dX12_cell_49 k19 i20 ?_
        refine r_iconst (pc := 50) (v := 1) dX12_cell_50 (by decide) ?_
        refine r_isub (pc := 51) dX12_cell_51 ?_
        refine r_callS (pc := 52) (as := [_, _, _]) (st := []) okX12_in lkX12_218 stX12_in dX12_cell_52 rfl (Nat.le_of_ble_eq_true rfl) (Nat.zero_le _) (Nat.zero_le _) (Call.mono h (fun r21 M22 h => ?_))
        obtain ⟨v23, rfl, h⟩ := h
        refine r_if_ne (pc := 55) (tgt := 65) dX12_cell_55 (by decide) (fun c24 => ?_) (fun c24 => ?_)
        · replace h := h.1 c24
          refine r_aload_n (pc := 65) (i := 0) dX12_cell_65 rfl rfl ?_
          obtain ⟨k25, h⟩ := h
          obtain ⟨b26, hb26, h⟩ := h
          refine r_getr (pc := 66) flX12_66 dX12_cell_66 rfl k25 hb26 ?_
          refine r_bipush (pc := 69) (v := 40) dX12_cell_69 (by decide) ?_
          refine r_iload_n (pc := 71) (i := 1) dX12_cell_71 rfl rfl ?_
          refine r_imul (pc := 72) dX12_cell_72 ?_
          refine r_iload_n (pc := 73) (i := 2) dX12_cell_73 rfl rfl ?_
          refine r_iadd (pc := 74) dX12_cell_74 ?_
          refine r_iload_n (pc := 75) (i := 3) dX12_cell_75 rfl rfl ?_
          obtain ⟨k27, h⟩ := h
          obtain ⟨i28, h⟩ := h
          refine r_iast (pc := 76) dX12_cell_76 k27 i28 ?_
          replace h := h _ rfl
          refine r_aload_n (pc := 77) (i := 0) dX12_cell_77 rfl rfl ?_
          refine r_iconst (pc := 78) (v := 1) dX12_cell_78 (by decide) ?_
          refine r_callV (pc := 79) (ci := 12) (as := [_]) (st := []) okX12_done lkX12_250 inX12_done seX12_done ⟨_, rfl, rfl⟩ dX12_cell_79 rfl k25 (Nat.le_of_ble_eq_true rfl) (Nat.zero_le _) (Nat.zero_le _) (Call.mono h (fun r30 M31 h => ?_))
          obtain ⟨v32, rfl, h⟩ := h
          exact r_iret (pc := 82) dX12_cell_82 rfl h
        · replace h := h.2 c24
          refine r_aload_n (pc := 58) (i := 0) dX12_cell_58 rfl rfl ?_
          refine r_bipush (pc := 59) (v := 12) dX12_cell_59 (by decide) ?_
          obtain ⟨k33, h⟩ := h
          refine r_callV (pc := 61) (ci := 12) (as := [_]) (st := []) okX12_refused lkX12_253 inX12_refused seX12_refused ⟨_, rfl, rfl⟩ dX12_cell_61 rfl k33 (Nat.le_of_ble_eq_true rfl) (Nat.zero_le _) (Nat.zero_le _) (Call.mono h (fun r34 M35 h => ?_))
          obtain ⟨v36, rfl, h⟩ := h
          exact r_iret (pc := 64) dX12_cell_64 rfl h
      · replace h := h.2 c17
        refine r_aload_n (pc := 35) (i := 0) dX12_cell_35 rfl rfl ?_
        refine r_bipush (pc := 36) (v := 10) dX12_cell_36 (by decide) ?_
        refine r_callV (pc := 38) (ci := 12) (as := [_]) (st := []) okX12_refused lkX12_253 inX12_refused seX12_refused ⟨_, rfl, rfl⟩ dX12_cell_38 rfl k13 (Nat.le_of_ble_eq_true rfl) (Nat.zero_le _) (Nat.zero_le _) (Call.mono h (fun r37 M38 h => ?_))
        obtain ⟨v39, rfl, h⟩ := h
        exact r_iret (pc := 41) dX12_cell_41 rfl h
    · replace h := h.2 c12
      refine r_aload_n (pc := 19) (i := 0) dX12_cell_19 rfl rfl ?_
      refine r_iconst (pc := 20) (v := 1) dX12_cell_20 (by decide) ?_
      obtain ⟨k40, h⟩ := h
      refine r_callV (pc := 21) (ci := 12) (as := [_]) (st := []) okX12_refused lkX12_253 inX12_refused seX12_refused ⟨_, rfl, rfl⟩ dX12_cell_21 rfl k40 (Nat.le_of_ble_eq_true rfl) (Nat.zero_le _) (Nat.zero_le _) (Call.mono h (fun r41 M42 h => ?_))
      obtain ⟨v43, rfl, h⟩ := h
      exact r_iret (pc := 24) dX12_cell_24 rfl h
abbrev LX12_isAbove_6 (G : GG) (d rc rs : Nat) (p0 : Nat) (x1 : Int32) (x2 : Int32) (x3 : Int32) (x4 : Int32) (x5 : Int32) (x6 : Int32) (M : Mem) (Q : Option Value → Mem → Prop) : Prop := Wk G (d + 1) rc rs mX12_isAbove 6 [some (.ref p0), some (.int x1), some (.int x2), some (.int x3), some (.int x4), some (.int x5), some (.int x6)] [] M Q
theorem eX12_isAbove {G : GG} {d rc rs : Nat} (o : Nat) (a1 : Int32) (a2 : Int32) (a3 : Int32) (a4 : Int32)  {M : Mem} {Q : Option Value → Mem → Prop} (h : LX12_isAbove_6 G d rc rs o a1 a2 a3 a4 0 a2 M Q) : Call G (d + 1) rc rs mX12_isAbove [.ref o, .int a1, .int a2, .int a3, .int a4] M Q := by
  refine call_of (by decide) (Nat.le_of_ble_eq_true rfl) ?_
  show Wk G (d + 1) rc rs mX12_isAbove 0 [some (.ref o), some (.int a1), some (.int a2), some (.int a3), some (.int a4), none, none] [] M Q
  refine r_iconst (pc := 0) (v := 0) dX12_isAbove_0 (by decide) ?_
  refine r_istore (pc := 1) (i := 5) dX12_isAbove_1 rfl (Nat.le_of_ble_eq_true rfl) ?_
  refine r_iload_n (pc := 3) (i := 2) dX12_isAbove_3 rfl rfl ?_
  refine r_istore (pc := 4) (i := 6) dX12_isAbove_4 rfl (Nat.le_of_ble_eq_true rfl) ?_
  exact h
theorem vX12_isAbove_6 {G : GG} {d rc rs : Nat} (p0 : Nat) (x1 : Int32) (x2 : Int32) (x3 : Int32) (x4 : Int32) (x5 : Int32) (x6 : Int32)  {M : Mem} {Q : Option Value → Mem → Prop} (h : ((x2 + x3) ≤ x6 → (x5 = 0 ∨ x5 = 1) ∧ Q (some (.int x5)) M) ∧ (¬ (x2 + x3) ≤ x6 → (¬ x5 = 0 → LX12_isAbove_6 G d rc rs p0 x1 x2 x3 x4 1 (x6 + 1) M Q) ∧ (x5 = 0 → (x_h M p0).1 = 28 ∧ (∃ b4, x_r M p0 21 = some b4 ∧ (x_h M b4).1 = 1 ∧ vp_in ((40 * x1) + x6) (x_h M b4).2 ∧ ((x_i M b4 ((40 * x1) + x6).toNatClampNeg) ≤ x4 → LX12_isAbove_6 G d rc rs p0 x1 x2 x3 x4 0 (x6 + 1) M Q) ∧ (¬ (x_i M b4 ((40 * x1) + x6).toNatClampNeg) ≤ x4 → LX12_isAbove_6 G d rc rs p0 x1 x2 x3 x4 1 (x6 + 1) M Q))))) : LX12_isAbove_6 G d rc rs p0 x1 x2 x3 x4 x5 x6 M Q := by
  show Wk G (d + 1) rc rs mX12_isAbove 6 _ _ M Q
  refine r_iload (pc := 6) (i := 6) dX12_isAbove_6 rfl ?_
  refine r_iload_n (pc := 8) (i := 2) dX12_isAbove_8 rfl rfl ?_
  refine r_iload_n (pc := 9) (i := 3) dX12_isAbove_9 rfl rfl ?_
  refine r_iadd (pc := 10) dX12_isAbove_10 ?_
  refine r_icmp_ge (pc := 11) (tgt := 49) dX12_isAbove_11 (by decide) (fun c1 => ?_) (fun c1 => ?_)
  · replace h := h.1 c1
    refine r_iload (pc := 49) (i := 5) dX12_isAbove_49 rfl ?_
    exact r_zret (pc := 51) dX12_isAbove_51 rfl h.1 h.2
  · replace h := h.2 c1
    refine r_iload (pc := 14) (i := 5) dX12_isAbove_14 rfl ?_
    refine r_if_ne (pc := 16) (tgt := 36) dX12_isAbove_16 (by decide) (fun c2 => ?_) (fun c2 => ?_)
    · replace h := h.1 c2
      refine r_iconst (pc := 36) (v := 1) dX12_isAbove_36 (by decide) ?_
      refine r_goto (pc := 37) (tgt := 41) dX12_isAbove_37 (by decide) ?_
      refine r_istore (pc := 41) (i := 5) dX12_isAbove_41 rfl (Nat.le_of_ble_eq_true rfl) ?_
      refine r_iinc (pc := 43) (i := 6) (v := _ + 1) dX12_isAbove_43 rfl rfl rfl ?_
      refine r_goto (pc := 46) (tgt := 6) dX12_isAbove_46 (by decide) ?_
      exact h
    · replace h := h.2 c2
      refine r_aload_n (pc := 19) (i := 0) dX12_isAbove_19 rfl rfl ?_
      obtain ⟨k3, h⟩ := h
      obtain ⟨b4, hb4, h⟩ := h
      refine r_getr (pc := 20) flX12_66 dX12_isAbove_20 rfl k3 hb4 ?_
      refine r_bipush (pc := 23) (v := 40) dX12_isAbove_23 (by decide) ?_
      refine r_iload_n (pc := 25) (i := 1) dX12_isAbove_25 rfl rfl ?_
      refine r_imul (pc := 26) dX12_isAbove_26 ?_
      refine r_iload (pc := 27) (i := 6) dX12_isAbove_27 rfl ?_
      refine r_iadd (pc := 29) dX12_isAbove_29 ?_
      obtain ⟨k5, h⟩ := h
      obtain ⟨i6, h⟩ := h
      refine r_iald (pc := 30) dX12_isAbove_30 k5 i6 ?_
      refine r_iload (pc := 31) (i := 4) dX12_isAbove_31 rfl ?_
      refine r_icmp_le (pc := 33) (tgt := 40) dX12_isAbove_33 (by decide) (fun c7 => ?_) (fun c7 => ?_)
      · replace h := h.1 c7
        refine r_iconst (pc := 40) (v := 0) dX12_isAbove_40 (by decide) ?_
        refine r_istore (pc := 41) (i := 5) dX12_isAbove_41 rfl (Nat.le_of_ble_eq_true rfl) ?_
        refine r_iinc (pc := 43) (i := 6) (v := _ + 1) dX12_isAbove_43 rfl rfl rfl ?_
        refine r_goto (pc := 46) (tgt := 6) dX12_isAbove_46 (by decide) ?_
        exact h
      · replace h := h.2 c7
        refine r_iconst (pc := 36) (v := 1) dX12_isAbove_36 (by decide) ?_
        refine r_goto (pc := 37) (tgt := 41) dX12_isAbove_37 (by decide) ?_
        refine r_istore (pc := 41) (i := 5) dX12_isAbove_41 rfl (Nat.le_of_ble_eq_true rfl) ?_
        refine r_iinc (pc := 43) (i := 6) (v := _ + 1) dX12_isAbove_43 rfl rfl rfl ?_
        refine r_goto (pc := 46) (tgt := 6) dX12_isAbove_46 (by decide) ?_
        exact h
theorem eX12_isOther {G : GG} {d rc rs : Nat} (o : Nat) (a1 : Int32) (a2 : Int32)  {M : Mem} {Q : Option Value → Mem → Prop} (h : (x_h M o).1 = 28 ∧ (∃ b2, x_r M o 19 = some b2 ∧ (x_h M b2).1 = 1 ∧ vp_in a1 (x_h M b2).2 ∧ ((x_i M b2 a1.toNatClampNeg) = (-1) → Q (some (.int 0)) M) ∧ (¬ (x_i M b2 a1.toNatClampNeg) = (-1) → ((x_i M b2 a1.toNatClampNeg) = a2 → Q (some (.int 0)) M) ∧ (¬ (x_i M b2 a1.toNatClampNeg) = a2 → Q (some (.int 1)) M)))) : Call G (d + 1) rc rs mX12_isOther [.ref o, .int a1, .int a2] M Q := by
  refine call_of (by decide) (Nat.le_of_ble_eq_true rfl) ?_
  show Wk G (d + 1) rc rs mX12_isOther 0 [some (.ref o), some (.int a1), some (.int a2)] [] M Q
  refine r_aload_n (pc := 0) (i := 0) dX12_isOther_0 rfl rfl ?_
  obtain ⟨k1, h⟩ := h
  obtain ⟨b2, hb2, h⟩ := h
  refine r_getr (pc := 1) flX12_60 dX12_isOther_1 rfl k1 hb2 ?_
  refine r_iload_n (pc := 4) (i := 1) dX12_isOther_4 rfl rfl ?_
  obtain ⟨k3, h⟩ := h
  obtain ⟨i4, h⟩ := h
  refine r_iald (pc := 5) dX12_isOther_5 k3 i4 ?_
  refine r_iconst (pc := 6) (v := (-1)) dX12_isOther_6 (by decide) ?_
  refine r_icmp_eq (pc := 7) (tgt := 24) dX12_isOther_7 (by decide) (fun c5 => ?_) (fun c5 => ?_)
  · replace h := h.1 c5
    refine r_iconst (pc := 24) (v := 0) dX12_isOther_24 (by decide) ?_
    exact r_zret (pc := 25) dX12_isOther_25 rfl (Or.inl rfl) h
  · replace h := h.2 c5
    refine r_aload_n (pc := 10) (i := 0) dX12_isOther_10 rfl rfl ?_
    refine r_getr (pc := 11) flX12_60 dX12_isOther_11 rfl k1 hb2 ?_
    refine r_iload_n (pc := 14) (i := 1) dX12_isOther_14 rfl rfl ?_
    refine r_iald (pc := 15) dX12_isOther_15 k3 i4 ?_
    refine r_iload_n (pc := 16) (i := 2) dX12_isOther_16 rfl rfl ?_
    refine r_icmp_eq (pc := 17) (tgt := 24) dX12_isOther_17 (by decide) (fun c6 => ?_) (fun c6 => ?_)
    · replace h := h.1 c6
      refine r_iconst (pc := 24) (v := 0) dX12_isOther_24 (by decide) ?_
      exact r_zret (pc := 25) dX12_isOther_25 rfl (Or.inl rfl) h
    · replace h := h.2 c6
      refine r_iconst (pc := 20) (v := 1) dX12_isOther_20 (by decide) ?_
      refine r_goto (pc := 21) (tgt := 25) dX12_isOther_21 (by decide) ?_
      exact r_zret (pc := 25) dX12_isOther_25 rfl (Or.inr rfl) h
abbrev LX12_machine_99 (G : GG) (d rc rs : Nat) (p0 : Nat) (x1 : Int32) (x2 : Int32) (x3 : Int32) (x4 : Int32) (u0 : Int32) (M : Mem) (Q : Option Value → Mem → Prop) : Prop := Wk G (d + 1) rc rs mX12_machine 99 [some (.ref p0), some (.int x1), some (.int x2), some (.int x3), some (.int x4), none, none, none, none, none, none] [.int u0] M Q
abbrev LX12_machine_139 (G : GG) (d rc rs : Nat) (p0 : Nat) (x1 : Int32) (x2 : Int32) (x3 : Int32) (x4 : Int32) (x5 : Int32) (x6 : Int32) (M : Mem) (Q : Option Value → Mem → Prop) : Prop := Wk G (d + 1) rc rs mX12_machine 139 [some (.ref p0), some (.int x1), some (.int x2), some (.int x3), some (.int x4), some (.int x5), some (.int x6), none, none, none, none] [] M Q
abbrev LX12_machine_187 (G : GG) (d rc rs : Nat) (p0 : Nat) (x1 : Int32) (x2 : Int32) (x3 : Int32) (x4 : Int32) (x5 : Int32) (x6 : Int32) (M : Mem) (Q : Option Value → Mem → Prop) : Prop := Wk G (d + 1) rc rs mX12_machine 187 [some (.ref p0), some (.int x1), some (.int x2), some (.int x3), some (.int x4), some (.int x5), some (.int x6), none, none, none, none] [] M Q
abbrev LX12_machine_230 (G : GG) (d rc rs : Nat) (p0 : Nat) (x1 : Int32) (x2 : Int32) (x3 : Int32) (x4 : Int32) (x5 : Int32) (x6 : Int32) (x7 : Int32) (z8 : Option Value) (z9 : Option Value) (z10 : Option Value) (M : Mem) (Q : Option Value → Mem → Prop) : Prop := Wk G (d + 1) rc rs mX12_machine 230 [some (.ref p0), some (.int x1), some (.int x2), some (.int x3), some (.int x4), some (.int x5), some (.int x6), some (.int x7), z8, z9, z10] [] M Q
abbrev LX12_machine_283 (G : GG) (d rc rs : Nat) (p0 : Nat) (x1 : Int32) (x2 : Int32) (x3 : Int32) (x4 : Int32) (x5 : Int32) (x6 : Int32) (x7 : Int32) (x8 : Int32) (x9 : Int32) (z10 : Option Value) (M : Mem) (Q : Option Value → Mem → Prop) : Prop := Wk G (d + 1) rc rs mX12_machine 283 [some (.ref p0), some (.int x1), some (.int x2), some (.int x3), some (.int x4), some (.int x5), some (.int x6), some (.int x7), some (.int x8), some (.int x9), z10] [] M Q
abbrev LX12_machine_321 (G : GG) (d rc rs : Nat) (p0 : Nat) (x1 : Int32) (x2 : Int32) (x3 : Int32) (x4 : Int32) (x5 : Int32) (x6 : Int32) (x7 : Int32) (x8 : Int32) (x9 : Int32) (z10 : Option Value) (u0 : Int32) (M : Mem) (Q : Option Value → Mem → Prop) : Prop := Wk G (d + 1) rc rs mX12_machine 321 [some (.ref p0), some (.int x1), some (.int x2), some (.int x3), some (.int x4), some (.int x5), some (.int x6), some (.int x7), some (.int x8), some (.int x9), z10] [.int u0] M Q
theorem eX12_machine {G : GG} {d rc rs : Nat} (o : Nat) (a1 : Int32) (a2 : Int32) (a3 : Int32) (a4 : Int32)  {M : Mem} {Q : Option Value → Mem → Prop} (h : Call G d 0 0 mX12_in [.int a1, .int 0, .int 5] M (fun r1 M2 => ∃ v3 : Int32, r1 = some (.int v3) ∧ (v3 = 0 → (x_h M2 o).1 = 28 ∧ Call G d 0 0 mX12_refused [.ref o, .int 1] M2 (fun r6 M7 => ∃ v8 : Int32, r6 = some (.int v8) ∧ Q (some (.int v8)) M7)) ∧ (¬ v3 = 0 → Call G d 0 0 mX12_in [.int a2, .int 0, .int 5] M2 (fun r9 M10 => ∃ v11 : Int32, r9 = some (.int v11) ∧ (v11 = 0 → (x_h M10 o).1 = 28 ∧ Call G d 0 0 mX12_refused [.ref o, .int 1] M10 (fun r14 M15 => ∃ v16 : Int32, r14 = some (.int v16) ∧ Q (some (.int v16)) M15)) ∧ (¬ v11 = 0 → Call G d 0 0 mX12_in [.int a3, .int 0, .int 2] M10 (fun r17 M18 => ∃ v19 : Int32, r17 = some (.int v19) ∧ (v19 = 0 → (x_h M18 o).1 = 28 ∧ Call G d 0 0 mX12_refused [.ref o, .int 1] M18 (fun r22 M23 => ∃ v24 : Int32, r22 = some (.int v24) ∧ Q (some (.int v24)) M23)) ∧ (¬ v19 = 0 → Call G d 0 0 mX12_in [.int a4, .int 1, .int 8] M18 (fun r25 M26 => ∃ v27 : Int32, r25 = some (.int v27) ∧ (¬ v27 = 0 → (x_h M26 o).1 = 28 ∧ (¬ (x_i M26 o 1) = 10 → Call G d 0 0 mX12_isOther [.ref o, .int a1, .int a3] M26 (fun r31 M32 => ∃ v33 : Int32, r31 = some (.int v33) ∧ (¬ v33 = 0 → (x_h M32 o).1 = 28 ∧ Call G d 0 0 mX12_refused [.ref o, .int 11] M32 (fun r36 M37 => ∃ v38 : Int32, r36 = some (.int v38) ∧ Q (some (.int v38)) M37)) ∧ (v33 = 0 → (x_h M32 o).1 = 28 ∧ Call G d 0 0 mX12_isOther [.ref o, .int a2, .int a3] M32 (fun r40 M41 => ∃ v42 : Int32, r40 = some (.int v42) ∧ (v42 = 0 → (x_h M41 o).1 = 28 ∧ (∃ b45, x_r M41 o 19 = some b45 ∧ (x_h M41 b45).1 = 1 ∧ vp_in a1 (x_h M41 b45).2 ∧ ((x_i M41 b45 a1.toNatClampNeg) = (-1) → LX12_machine_99 G d rc rs o a1 a2 a3 a4 0 M41 Q) ∧ (¬ (x_i M41 b45 a1.toNatClampNeg) = (-1) → LX12_machine_99 G d rc rs o a1 a2 a3 a4 1 M41 Q))) ∧ (¬ v42 = 0 → (x_h M41 o).1 = 28 ∧ Call G d 0 0 mX12_refused [.ref o, .int 11] M41 (fun r50 M51 => ∃ v52 : Int32, r50 = some (.int v52) ∧ Q (some (.int v52)) M51)))))) ∧ ((x_i M26 o 1) = 10 → Call G d 0 0 mX12_refused [.ref o, .int 2] M26 (fun r53 M54 => ∃ v55 : Int32, r53 = some (.int v55) ∧ Q (some (.int v55)) M54))) ∧ (v27 = 0 → (x_h M26 o).1 = 28 ∧ Call G d 0 0 mX12_refused [.ref o, .int 1] M26 (fun r57 M58 => ∃ v59 : Int32, r57 = some (.int v59) ∧ Q (some (.int v59)) M58)))))))))) : Call G (d + 1) rc rs mX12_machine [.ref o, .int a1, .int a2, .int a3, .int a4] M Q := by
  refine call_of (by decide) (Nat.le_of_ble_eq_true rfl) ?_
  show Wk G (d + 1) rc rs mX12_machine 0 [some (.ref o), some (.int a1), some (.int a2), some (.int a3), some (.int a4), none, none, none, none, none, none] [] M Q
  refine r_iload_n (pc := 0) (i := 1) dX12_machine_0 rfl rfl ?_
  refine r_iconst (pc := 1) (v := 0) dX12_machine_1 (by decide) ?_
  refine r_iconst (pc := 2) (v := 5) dX12_machine_2 (by decide) ?_
  refine r_callS (pc := 3) (as := [_, _, _]) (st := []) okX12_in lkX12_218 stX12_in dX12_machine_3 rfl (Nat.le_of_ble_eq_true rfl) (Nat.zero_le _) (Nat.zero_le _) (Call.mono h (fun r1 M2 h => ?_))
  obtain ⟨v3, rfl, h⟩ := h
  refine r_if_eq (pc := 6) (tgt := 38) dX12_machine_6 (by decide) (fun c4 => ?_) (fun c4 => ?_)
  · replace h := h.1 c4
    refine r_aload_n (pc := 38) (i := 0) dX12_machine_38 rfl rfl ?_
    refine r_iconst (pc := 39) (v := 1) dX12_machine_39 (by decide) ?_
    obtain ⟨k5, h⟩ := h
    refine r_callV (pc := 40) (ci := 12) (as := [_]) (st := []) okX12_refused lkX12_253 inX12_refused seX12_refused ⟨_, rfl, rfl⟩ dX12_machine_40 rfl k5 (Nat.le_of_ble_eq_true rfl) (Nat.zero_le _) (Nat.zero_le _) (Call.mono h (fun r6 M7 h => ?_))
    obtain ⟨v8, rfl, h⟩ := h
    exact r_iret (pc := 43) dX12_machine_43 rfl h
  · replace h := h.2 c4
    refine r_iload_n (pc := 9) (i := 2) dX12_machine_9 rfl rfl ?_
    refine r_iconst (pc := 10) (v := 0) dX12_machine_10 (by decide) ?_
    refine r_iconst (pc := 11) (v := 5) dX12_machine_11 (by decide) ?_
    refine r_callS (pc := 12) (as := [_, _, _]) (st := []) okX12_in lkX12_218 stX12_in dX12_machine_12 rfl (Nat.le_of_ble_eq_true rfl) (Nat.zero_le _) (Nat.zero_le _) (Call.mono h (fun r9 M10 h => ?_))
    obtain ⟨v11, rfl, h⟩ := h
    refine r_if_eq (pc := 15) (tgt := 38) dX12_machine_15 (by decide) (fun c12 => ?_) (fun c12 => ?_)
    · replace h := h.1 c12
      refine r_aload_n (pc := 38) (i := 0) dX12_machine_38 rfl rfl ?_
      refine r_iconst (pc := 39) (v := 1) dX12_machine_39 (by decide) ?_
      obtain ⟨k13, h⟩ := h
      refine r_callV (pc := 40) (ci := 12) (as := [_]) (st := []) okX12_refused lkX12_253 inX12_refused seX12_refused ⟨_, rfl, rfl⟩ dX12_machine_40 rfl k13 (Nat.le_of_ble_eq_true rfl) (Nat.zero_le _) (Nat.zero_le _) (Call.mono h (fun r14 M15 h => ?_))
      obtain ⟨v16, rfl, h⟩ := h
      exact r_iret (pc := 43) dX12_machine_43 rfl h
    · replace h := h.2 c12
      refine r_iload_n (pc := 18) (i := 3) dX12_machine_18 rfl rfl ?_
      refine r_iconst (pc := 19) (v := 0) dX12_machine_19 (by decide) ?_
      refine r_iconst (pc := 20) (v := 2) dX12_machine_20 (by decide) ?_
      refine r_callS (pc := 21) (as := [_, _, _]) (st := []) okX12_in lkX12_218 stX12_in dX12_machine_21 rfl (Nat.le_of_ble_eq_true rfl) (Nat.zero_le _) (Nat.zero_le _) (Call.mono h (fun r17 M18 h => ?_))
      obtain ⟨v19, rfl, h⟩ := h
      refine r_if_eq (pc := 24) (tgt := 38) dX12_machine_24 (by decide) (fun c20 => ?_) (fun c20 => ?_)
      · replace h := h.1 c20
        refine r_aload_n (pc := 38) (i := 0) dX12_machine_38 rfl rfl ?_
        refine r_iconst (pc := 39) (v := 1) dX12_machine_39 (by decide) ?_
        obtain ⟨k21, h⟩ := h
        refine r_callV (pc := 40) (ci := 12) (as := [_]) (st := []) okX12_refused lkX12_253 inX12_refused seX12_refused ⟨_, rfl, rfl⟩ dX12_machine_40 rfl k21 (Nat.le_of_ble_eq_true rfl) (Nat.zero_le _) (Nat.zero_le _) (Call.mono h (fun r22 M23 h => ?_))
        obtain ⟨v24, rfl, h⟩ := h
        exact r_iret (pc := 43) dX12_machine_43 rfl h
      · replace h := h.2 c20
        refine r_iload (pc := 27) (i := 4) dX12_machine_27 rfl ?_
        refine r_iconst (pc := 29) (v := 1) dX12_machine_29 (by decide) ?_
        refine r_bipush (pc := 30) (v := 8) dX12_machine_30 (by decide) ?_
        refine r_callS (pc := 32) (as := [_, _, _]) (st := []) okX12_in lkX12_218 stX12_in dX12_machine_32 rfl (Nat.le_of_ble_eq_true rfl) (Nat.zero_le _) (Nat.zero_le _) (Call.mono h (fun r25 M26 h => ?_))
        obtain ⟨v27, rfl, h⟩ := h
        refine r_if_ne (pc := 35) (tgt := 44) dX12_machine_35 (by decide) (fun c28 => ?_) (fun c28 => ?_)
        · replace h := h.1 c28
          refine r_aload_n (pc := 44) (i := 0) dX12_machine_44 rfl rfl ?_
          obtain ⟨k29, h⟩ := h
          refine r_geti (pc := 45) flX12_215 dX12_machine_45 (Or.inl rfl) k29 ?_
          refine r_bipush (pc := 48) (v := 10) dX12_machine_48 (by decide) ?_
          refine r_icmp_ne (pc := 50) (tgt := 59) dX12_machine_50 (by decide) (fun c30 => ?_) (fun c30 => ?_)
          · replace h := h.1 c30
            refine r_aload_n (pc := 59) (i := 0) dX12_machine_59 rfl rfl ?_
            refine r_iload_n (pc := 60) (i := 1) dX12_machine_60 rfl rfl ?_
            refine r_iload_n (pc := 61) (i := 3) dX12_machine_61 rfl rfl ?_
            refine r_callV (pc := 62) (ci := 12) (as := [_, _]) (st := []) okX12_isOther lkX12_259 inX12_isOther seX12_isOther ⟨_, rfl, rfl⟩ dX12_machine_62 rfl k29 (Nat.le_of_ble_eq_true rfl) (Nat.zero_le _) (Nat.zero_le _) (Call.mono h (fun r31 M32 h => ?_))
            obtain ⟨v33, rfl, h⟩ := h
            refine r_if_ne (pc := 65) (tgt := 77) dX12_machine_65 (by decide) (fun c34 => ?_) (fun c34 => ?_)
            · replace h := h.1 c34
              refine r_aload_n (pc := 77) (i := 0) dX12_machine_77 rfl rfl ?_
              refine r_bipush (pc := 78) (v := 11) dX12_machine_78 (by decide) ?_
              obtain ⟨k35, h⟩ := h
              refine r_callV (pc := 80) (ci := 12) (as := [_]) (st := []) okX12_refused lkX12_253 inX12_refused seX12_refused ⟨_, rfl, rfl⟩ dX12_machine_80 rfl k35 (Nat.le_of_ble_eq_true rfl) (Nat.zero_le _) (Nat.zero_le _) (Call.mono h (fun r36 M37 h => ?_))
              obtain ⟨v38, rfl, h⟩ := h
              exact r_iret (pc := 83) dX12_machine_83 rfl h
            · replace h := h.2 c34
              refine r_aload_n (pc := 68) (i := 0) dX12_machine_68 rfl rfl ?_
              refine r_iload_n (pc := 69) (i := 2) dX12_machine_69 rfl rfl ?_
              refine r_iload_n (pc := 70) (i := 3) dX12_machine_70 rfl rfl ?_
              obtain ⟨k39, h⟩ := h
              refine r_callV (pc := 71) (ci := 12) (as := [_, _]) (st := []) okX12_isOther lkX12_259 inX12_isOther seX12_isOther ⟨_, rfl, rfl⟩ dX12_machine_71 rfl k39 (Nat.le_of_ble_eq_true rfl) (Nat.zero_le _) (Nat.zero_le _) (Call.mono h (fun r40 M41 h => ?_))
              obtain ⟨v42, rfl, h⟩ := h
              refine r_if_eq (pc := 74) (tgt := 84) dX12_machine_74 (by decide) (fun c43 => ?_) (fun c43 => ?_)
              · replace h := h.1 c43
                refine r_aload_n (pc := 84) (i := 0) dX12_machine_84 rfl rfl ?_
                obtain ⟨k44, h⟩ := h
                obtain ⟨b45, hb45, h⟩ := h
                refine r_getr (pc := 85) flX12_60 dX12_machine_85 rfl k44 hb45 ?_
                refine r_iload_n (pc := 88) (i := 1) dX12_machine_88 rfl rfl ?_
                obtain ⟨k46, h⟩ := h
                obtain ⟨i47, h⟩ := h
                refine r_iald (pc := 89) dX12_machine_89 k46 i47 ?_
                refine r_iconst (pc := 90) (v := (-1)) dX12_machine_90 (by decide) ?_
                refine r_icmp_eq (pc := 91) (tgt := 98) dX12_machine_91 (by decide) (fun c48 => ?_) (fun c48 => ?_)
                · replace h := h.1 c48
                  refine r_iconst (pc := 98) (v := 0) dX12_machine_98 (by decide) ?_
                  exact h
                · replace h := h.2 c48
                  refine r_iconst (pc := 94) (v := 1) dX12_machine_94 (by decide) ?_
                  refine r_goto (pc := 95) (tgt := 99) dX12_machine_95 (by decide) ?_
                  exact h
              · replace h := h.2 c43
                refine r_aload_n (pc := 77) (i := 0) dX12_machine_77 rfl rfl ?_
                refine r_bipush (pc := 78) (v := 11) dX12_machine_78 (by decide) ?_
                obtain ⟨k49, h⟩ := h
                refine r_callV (pc := 80) (ci := 12) (as := [_]) (st := []) okX12_refused lkX12_253 inX12_refused seX12_refused ⟨_, rfl, rfl⟩ dX12_machine_80 rfl k49 (Nat.le_of_ble_eq_true rfl) (Nat.zero_le _) (Nat.zero_le _) (Call.mono h (fun r50 M51 h => ?_))
                obtain ⟨v52, rfl, h⟩ := h
                exact r_iret (pc := 83) dX12_machine_83 rfl h
          · replace h := h.2 c30
            refine r_aload_n (pc := 53) (i := 0) dX12_machine_53 rfl rfl ?_
            refine r_iconst (pc := 54) (v := 2) dX12_machine_54 (by decide) ?_
            refine r_callV (pc := 55) (ci := 12) (as := [_]) (st := []) okX12_refused lkX12_253 inX12_refused seX12_refused ⟨_, rfl, rfl⟩ dX12_machine_55 rfl k29 (Nat.le_of_ble_eq_true rfl) (Nat.zero_le _) (Nat.zero_le _) (Call.mono h (fun r53 M54 h => ?_))
            obtain ⟨v55, rfl, h⟩ := h
            exact r_iret (pc := 58) dX12_machine_58 rfl h
        · replace h := h.2 c28
          refine r_aload_n (pc := 38) (i := 0) dX12_machine_38 rfl rfl ?_
          refine r_iconst (pc := 39) (v := 1) dX12_machine_39 (by decide) ?_
          obtain ⟨k56, h⟩ := h
          refine r_callV (pc := 40) (ci := 12) (as := [_]) (st := []) okX12_refused lkX12_253 inX12_refused seX12_refused ⟨_, rfl, rfl⟩ dX12_machine_40 rfl k56 (Nat.le_of_ble_eq_true rfl) (Nat.zero_le _) (Nat.zero_le _) (Call.mono h (fun r57 M58 h => ?_))
          obtain ⟨v59, rfl, h⟩ := h
          exact r_iret (pc := 43) dX12_machine_43 rfl h
theorem vX12_machine_99 {G : GG} {d rc rs : Nat} (p0 : Nat) (x1 : Int32) (x2 : Int32) (x3 : Int32) (x4 : Int32) (u0 : Int32)  {M : Mem} {Q : Option Value → Mem → Prop} (h : (x_h M p0).1 = 28 ∧ (∃ b2, x_r M p0 19 = some b2 ∧ (x_h M b2).1 = 1 ∧ vp_in x2 (x_h M b2).2 ∧ ((x_i M b2 x2.toNatClampNeg) = (-1) → (u0 = 0 → LX12_machine_139 G d rc rs p0 x1 x2 x3 x4 u0 0 M Q) ∧ (¬ u0 = 0 → ∃ b7, x_r M p0 20 = some b7 ∧ (x_h M b7).1 = 1 ∧ vp_in x1 (x_h M b7).2 ∧ ((x_i M b7 x1.toNatClampNeg) < (x4 * (x_i M p0 0)) → Call G d 0 0 mX12_refused [.ref p0, .int 12] M (fun r11 M12 => ∃ v13 : Int32, r11 = some (.int v13) ∧ Q (some (.int v13)) M12)) ∧ (¬ (x_i M b7 x1.toNatClampNeg) < (x4 * (x_i M p0 0)) → LX12_machine_139 G d rc rs p0 x1 x2 x3 x4 u0 0 M Q))) ∧ (¬ (x_i M b2 x2.toNatClampNeg) = (-1) → (u0 = 0 → LX12_machine_139 G d rc rs p0 x1 x2 x3 x4 u0 1 M Q) ∧ (¬ u0 = 0 → ∃ b15, x_r M p0 20 = some b15 ∧ (x_h M b15).1 = 1 ∧ vp_in x1 (x_h M b15).2 ∧ ((x_i M b15 x1.toNatClampNeg) < (x4 * (x_i M p0 0)) → Call G d 0 0 mX12_refused [.ref p0, .int 12] M (fun r19 M20 => ∃ v21 : Int32, r19 = some (.int v21) ∧ Q (some (.int v21)) M20)) ∧ (¬ (x_i M b15 x1.toNatClampNeg) < (x4 * (x_i M p0 0)) → LX12_machine_139 G d rc rs p0 x1 x2 x3 x4 u0 1 M Q))))) : LX12_machine_99 G d rc rs p0 x1 x2 x3 x4 u0 M Q := by
  show Wk G (d + 1) rc rs mX12_machine 99 _ _ M Q
  refine r_istore (pc := 99) (i := 5) dX12_machine_99 rfl (Nat.le_of_ble_eq_true rfl) ?_
  refine r_aload_n (pc := 101) (i := 0) dX12_machine_101 rfl rfl ?_
  obtain ⟨k1, h⟩ := h
  obtain ⟨b2, hb2, h⟩ := h
  refine r_getr (pc := 102) flX12_60 dX12_machine_102 rfl k1 hb2 ?_
  refine r_iload_n (pc := 105) (i := 2) dX12_machine_105 rfl rfl ?_
  obtain ⟨k3, h⟩ := h
  obtain ⟨i4, h⟩ := h
  refine r_iald (pc := 106) dX12_machine_106 k3 i4 ?_
  refine r_iconst (pc := 107) (v := (-1)) dX12_machine_107 (by decide) ?_
  refine r_icmp_eq (pc := 108) (tgt := 115) dX12_machine_108 (by decide) (fun c5 => ?_) (fun c5 => ?_)
  · replace h := h.1 c5
    refine r_iconst (pc := 115) (v := 0) dX12_machine_115 (by decide) ?_
    refine r_istore (pc := 116) (i := 6) dX12_machine_116 rfl (Nat.le_of_ble_eq_true rfl) ?_
    refine r_iload (pc := 118) (i := 5) dX12_machine_118 rfl ?_
    refine r_if_eq (pc := 120) (tgt := 139) dX12_machine_120 (by decide) (fun c6 => ?_) (fun c6 => ?_)
    · replace h := h.1 c6
      exact h
    · replace h := h.2 c6
      refine r_aload_n (pc := 123) (i := 0) dX12_machine_123 rfl rfl ?_
      obtain ⟨b7, hb7, h⟩ := h
      refine r_getr (pc := 124) flX12_63 dX12_machine_124 rfl k1 hb7 ?_
      refine r_iload_n (pc := 127) (i := 1) dX12_machine_127 rfl rfl ?_
      obtain ⟨k8, h⟩ := h
      obtain ⟨i9, h⟩ := h
      refine r_iald (pc := 128) dX12_machine_128 k8 i9 ?_
      refine r_iload (pc := 129) (i := 4) dX12_machine_129 rfl ?_
      refine r_aload_n (pc := 131) (i := 0) dX12_machine_131 rfl rfl ?_
      refine r_geti (pc := 132) flX12_7 dX12_machine_132 (Or.inl rfl) k1 ?_
      refine r_imul (pc := 135) dX12_machine_135 ?_
      refine r_icmp_lt (pc := 136) (tgt := 155) dX12_machine_136 (by decide) (fun c10 => ?_) (fun c10 => ?_)
      · replace h := h.1 c10
        refine r_aload_n (pc := 155) (i := 0) dX12_machine_155 rfl rfl ?_
        refine r_bipush (pc := 156) (v := 12) dX12_machine_156 (by decide) ?_
        refine r_callV (pc := 158) (ci := 12) (as := [_]) (st := []) okX12_refused lkX12_253 inX12_refused seX12_refused ⟨_, rfl, rfl⟩ dX12_machine_158 rfl k1 (Nat.le_of_ble_eq_true rfl) (Nat.zero_le _) (Nat.zero_le _) (Call.mono h (fun r11 M12 h => ?_))
        obtain ⟨v13, rfl, h⟩ := h
        exact r_iret (pc := 161) dX12_machine_161 rfl h
      · replace h := h.2 c10
        exact h
  · replace h := h.2 c5
    refine r_iconst (pc := 111) (v := 1) dX12_machine_111 (by decide) ?_
    refine r_goto (pc := 112) (tgt := 116) dX12_machine_112 (by decide) ?_
    refine r_istore (pc := 116) (i := 6) dX12_machine_116 rfl (Nat.le_of_ble_eq_true rfl) ?_
    refine r_iload (pc := 118) (i := 5) dX12_machine_118 rfl ?_
    refine r_if_eq (pc := 120) (tgt := 139) dX12_machine_120 (by decide) (fun c14 => ?_) (fun c14 => ?_)
    · replace h := h.1 c14
      exact h
    · replace h := h.2 c14
      refine r_aload_n (pc := 123) (i := 0) dX12_machine_123 rfl rfl ?_
      obtain ⟨b15, hb15, h⟩ := h
      refine r_getr (pc := 124) flX12_63 dX12_machine_124 rfl k1 hb15 ?_
      refine r_iload_n (pc := 127) (i := 1) dX12_machine_127 rfl rfl ?_
      obtain ⟨k16, h⟩ := h
      obtain ⟨i17, h⟩ := h
      refine r_iald (pc := 128) dX12_machine_128 k16 i17 ?_
      refine r_iload (pc := 129) (i := 4) dX12_machine_129 rfl ?_
      refine r_aload_n (pc := 131) (i := 0) dX12_machine_131 rfl rfl ?_
      refine r_geti (pc := 132) flX12_7 dX12_machine_132 (Or.inl rfl) k1 ?_
      refine r_imul (pc := 135) dX12_machine_135 ?_
      refine r_icmp_lt (pc := 136) (tgt := 155) dX12_machine_136 (by decide) (fun c18 => ?_) (fun c18 => ?_)
      · replace h := h.1 c18
        refine r_aload_n (pc := 155) (i := 0) dX12_machine_155 rfl rfl ?_
        refine r_bipush (pc := 156) (v := 12) dX12_machine_156 (by decide) ?_
        refine r_callV (pc := 158) (ci := 12) (as := [_]) (st := []) okX12_refused lkX12_253 inX12_refused seX12_refused ⟨_, rfl, rfl⟩ dX12_machine_158 rfl k1 (Nat.le_of_ble_eq_true rfl) (Nat.zero_le _) (Nat.zero_le _) (Call.mono h (fun r19 M20 h => ?_))
        obtain ⟨v21, rfl, h⟩ := h
        exact r_iret (pc := 161) dX12_machine_161 rfl h
      · replace h := h.2 c18
        exact h
theorem vX12_machine_139 {G : GG} {d rc rs : Nat} (p0 : Nat) (x1 : Int32) (x2 : Int32) (x3 : Int32) (x4 : Int32) (x5 : Int32) (x6 : Int32)  {M : Mem} {Q : Option Value → Mem → Prop} (h : (x6 = 0 → (x5 = 0 → LX12_machine_187 G d rc rs p0 x1 x2 x3 x4 x5 x6 M Q) ∧ (¬ x5 = 0 → (x_h M p0).1 = 28 ∧ Call G d 0 0 mX12_isAbove [.ref p0, .int x1, .int 0, .int (x4 * (x_i M p0 0)), .int (x4 - 1)] M (fun r4 M5 => ∃ v6 : Int32, r4 = some (.int v6) ∧ (¬ v6 = 0 → (x_h M5 p0).1 = 28 ∧ Call G d 0 0 mX12_refused [.ref p0, .int 3] M5 (fun r9 M10 => ∃ v11 : Int32, r9 = some (.int v11) ∧ Q (some (.int v11)) M10)) ∧ (v6 = 0 → LX12_machine_187 G d rc rs p0 x1 x2 x3 x4 x5 x6 M5 Q)))) ∧ (¬ x6 = 0 → (x_h M p0).1 = 28 ∧ (∃ b13, x_r M p0 20 = some b13 ∧ (x_h M b13).1 = 1 ∧ vp_in x2 (x_h M b13).2 ∧ (x4 ≤ (x_i M b13 x2.toNatClampNeg) → (x5 = 0 → LX12_machine_187 G d rc rs p0 x1 x2 x3 x4 x5 x6 M Q) ∧ (¬ x5 = 0 → Call G d 0 0 mX12_isAbove [.ref p0, .int x1, .int 0, .int (x4 * (x_i M p0 0)), .int (x4 - 1)] M (fun r18 M19 => ∃ v20 : Int32, r18 = some (.int v20) ∧ (¬ v20 = 0 → (x_h M19 p0).1 = 28 ∧ Call G d 0 0 mX12_refused [.ref p0, .int 3] M19 (fun r23 M24 => ∃ v25 : Int32, r23 = some (.int v25) ∧ Q (some (.int v25)) M24)) ∧ (v20 = 0 → LX12_machine_187 G d rc rs p0 x1 x2 x3 x4 x5 x6 M19 Q)))) ∧ (¬ x4 ≤ (x_i M b13 x2.toNatClampNeg) → Call G d 0 0 mX12_refused [.ref p0, .int 12] M (fun r26 M27 => ∃ v28 : Int32, r26 = some (.int v28) ∧ Q (some (.int v28)) M27))))) : LX12_machine_139 G d rc rs p0 x1 x2 x3 x4 x5 x6 M Q := by
  show Wk G (d + 1) rc rs mX12_machine 139 _ _ M Q
  refine r_iload (pc := 139) (i := 6) dX12_machine_139 rfl ?_
  refine r_if_eq (pc := 141) (tgt := 162) dX12_machine_141 (by decide) (fun c1 => ?_) (fun c1 => ?_)
  · replace h := h.1 c1
    refine r_iload (pc := 162) (i := 5) dX12_machine_162 rfl ?_
    refine r_if_eq (pc := 164) (tgt := 187) dX12_machine_164 (by decide) (fun c2 => ?_) (fun c2 => ?_)
    · replace h := h.1 c2
      exact h
    · replace h := h.2 c2
      refine r_aload_n (pc := 167) (i := 0) dX12_machine_167 rfl rfl ?_
      refine r_iload_n (pc := 168) (i := 1) dX12_machine_168 rfl rfl ?_
      refine r_iconst (pc := 169) (v := 0) dX12_machine_169 (by decide) ?_
      refine r_iload (pc := 170) (i := 4) dX12_machine_170 rfl ?_
      refine r_aload_n (pc := 172) (i := 0) dX12_machine_172 rfl rfl ?_
      obtain ⟨k3, h⟩ := h
      refine r_geti (pc := 173) flX12_7 dX12_machine_173 (Or.inl rfl) k3 ?_
      refine r_imul (pc := 176) dX12_machine_176 ?_
      refine r_iload (pc := 177) (i := 4) dX12_machine_177 rfl ?_
      refine r_iconst (pc := 179) (v := 1) dX12_machine_179 (by decide) ?_
      refine r_isub (pc := 180) dX12_machine_180 ?_
      refine r_callV (pc := 181) (ci := 12) (as := [_, _, _, _]) (st := []) okX12_isAbove lkX12_262 inX12_isAbove seX12_isAbove ⟨_, rfl, rfl⟩ dX12_machine_181 rfl k3 (Nat.le_of_ble_eq_true rfl) (Nat.zero_le _) (Nat.zero_le _) (Call.mono h (fun r4 M5 h => ?_))
      obtain ⟨v6, rfl, h⟩ := h
      refine r_if_ne (pc := 184) (tgt := 205) dX12_machine_184 (by decide) (fun c7 => ?_) (fun c7 => ?_)
      · replace h := h.1 c7
        refine r_aload_n (pc := 205) (i := 0) dX12_machine_205 rfl rfl ?_
        refine r_iconst (pc := 206) (v := 3) dX12_machine_206 (by decide) ?_
        obtain ⟨k8, h⟩ := h
        refine r_callV (pc := 207) (ci := 12) (as := [_]) (st := []) okX12_refused lkX12_253 inX12_refused seX12_refused ⟨_, rfl, rfl⟩ dX12_machine_207 rfl k8 (Nat.le_of_ble_eq_true rfl) (Nat.zero_le _) (Nat.zero_le _) (Call.mono h (fun r9 M10 h => ?_))
        obtain ⟨v11, rfl, h⟩ := h
        exact r_iret (pc := 210) dX12_machine_210 rfl h
      · replace h := h.2 c7
        exact h
  · replace h := h.2 c1
    refine r_aload_n (pc := 144) (i := 0) dX12_machine_144 rfl rfl ?_
    obtain ⟨k12, h⟩ := h
    obtain ⟨b13, hb13, h⟩ := h
    refine r_getr (pc := 145) flX12_63 dX12_machine_145 rfl k12 hb13 ?_
    refine r_iload_n (pc := 148) (i := 2) dX12_machine_148 rfl rfl ?_
    obtain ⟨k14, h⟩ := h
    obtain ⟨i15, h⟩ := h
    refine r_iald (pc := 149) dX12_machine_149 k14 i15 ?_
    refine r_iload (pc := 150) (i := 4) dX12_machine_150 rfl ?_
    refine r_icmp_ge (pc := 152) (tgt := 162) dX12_machine_152 (by decide) (fun c16 => ?_) (fun c16 => ?_)
    · replace h := h.1 c16
      refine r_iload (pc := 162) (i := 5) dX12_machine_162 rfl ?_
      refine r_if_eq (pc := 164) (tgt := 187) dX12_machine_164 (by decide) (fun c17 => ?_) (fun c17 => ?_)
      · replace h := h.1 c17
        exact h
      · replace h := h.2 c17
        refine r_aload_n (pc := 167) (i := 0) dX12_machine_167 rfl rfl ?_
        refine r_iload_n (pc := 168) (i := 1) dX12_machine_168 rfl rfl ?_
        refine r_iconst (pc := 169) (v := 0) dX12_machine_169 (by decide) ?_
        refine r_iload (pc := 170) (i := 4) dX12_machine_170 rfl ?_
        refine r_aload_n (pc := 172) (i := 0) dX12_machine_172 rfl rfl ?_
        refine r_geti (pc := 173) flX12_7 dX12_machine_173 (Or.inl rfl) k12 ?_
        refine r_imul (pc := 176) dX12_machine_176 ?_
        refine r_iload (pc := 177) (i := 4) dX12_machine_177 rfl ?_
        refine r_iconst (pc := 179) (v := 1) dX12_machine_179 (by decide) ?_
        refine r_isub (pc := 180) dX12_machine_180 ?_
        refine r_callV (pc := 181) (ci := 12) (as := [_, _, _, _]) (st := []) okX12_isAbove lkX12_262 inX12_isAbove seX12_isAbove ⟨_, rfl, rfl⟩ dX12_machine_181 rfl k12 (Nat.le_of_ble_eq_true rfl) (Nat.zero_le _) (Nat.zero_le _) (Call.mono h (fun r18 M19 h => ?_))
        obtain ⟨v20, rfl, h⟩ := h
        refine r_if_ne (pc := 184) (tgt := 205) dX12_machine_184 (by decide) (fun c21 => ?_) (fun c21 => ?_)
        · replace h := h.1 c21
          refine r_aload_n (pc := 205) (i := 0) dX12_machine_205 rfl rfl ?_
          refine r_iconst (pc := 206) (v := 3) dX12_machine_206 (by decide) ?_
          obtain ⟨k22, h⟩ := h
          refine r_callV (pc := 207) (ci := 12) (as := [_]) (st := []) okX12_refused lkX12_253 inX12_refused seX12_refused ⟨_, rfl, rfl⟩ dX12_machine_207 rfl k22 (Nat.le_of_ble_eq_true rfl) (Nat.zero_le _) (Nat.zero_le _) (Call.mono h (fun r23 M24 h => ?_))
          obtain ⟨v25, rfl, h⟩ := h
          exact r_iret (pc := 210) dX12_machine_210 rfl h
        · replace h := h.2 c21
          exact h
    · replace h := h.2 c16
      refine r_aload_n (pc := 155) (i := 0) dX12_machine_155 rfl rfl ?_
      refine r_bipush (pc := 156) (v := 12) dX12_machine_156 (by decide) ?_
      refine r_callV (pc := 158) (ci := 12) (as := [_]) (st := []) okX12_refused lkX12_253 inX12_refused seX12_refused ⟨_, rfl, rfl⟩ dX12_machine_158 rfl k12 (Nat.le_of_ble_eq_true rfl) (Nat.zero_le _) (Nat.zero_le _) (Call.mono h (fun r26 M27 h => ?_))
      obtain ⟨v28, rfl, h⟩ := h
      exact r_iret (pc := 161) dX12_machine_161 rfl h
theorem vX12_machine_187 {G : GG} {d rc rs : Nat} (p0 : Nat) (x1 : Int32) (x2 : Int32) (x3 : Int32) (x4 : Int32) (x5 : Int32) (x6 : Int32)  {M : Mem} {Q : Option Value → Mem → Prop} (h : (x6 = 0 → (x_h M p0).1 = 28 ∧ (∀ M3, M3 = x_si M p0 25 (x4 + 1) → ∀ M4, M4 = x_si M3 p0 26 (x_i M3 p0 0) → LX12_machine_230 G d rc rs p0 x1 x2 x3 x4 x5 x6 0 none none none M4 Q)) ∧ (¬ x6 = 0 → (x_h M p0).1 = 28 ∧ Call G d 0 0 mX12_isAbove [.ref p0, .int x2, .int 0, .int x4, .int 7] M (fun r6 M7 => ∃ v8 : Int32, r6 = some (.int v8) ∧ (v8 = 0 → (x_h M7 p0).1 = 28 ∧ (∀ M11, M11 = x_si M7 p0 25 (x4 + 1) → ∀ M12, M12 = x_si M11 p0 26 (x_i M11 p0 0) → LX12_machine_230 G d rc rs p0 x1 x2 x3 x4 x5 x6 0 none none none M12 Q)) ∧ (¬ v8 = 0 → (x_h M7 p0).1 = 28 ∧ Call G d 0 0 mX12_refused [.ref p0, .int 3] M7 (fun r14 M15 => ∃ v16 : Int32, r14 = some (.int v16) ∧ Q (some (.int v16)) M15))))) : LX12_machine_187 G d rc rs p0 x1 x2 x3 x4 x5 x6 M Q := by
  show Wk G (d + 1) rc rs mX12_machine 187 _ _ M Q
  refine r_iload (pc := 187) (i := 6) dX12_machine_187 rfl ?_
  refine r_if_eq (pc := 189) (tgt := 211) dX12_machine_189 (by decide) (fun c1 => ?_) (fun c1 => ?_)
  · replace h := h.1 c1
    refine r_aload_n (pc := 211) (i := 0) dX12_machine_211 rfl rfl ?_
    refine r_iload (pc := 212) (i := 4) dX12_machine_212 rfl ?_
    refine r_iconst (pc := 214) (v := 1) dX12_machine_214 (by decide) ?_
    refine r_iadd (pc := 215) dX12_machine_215 ?_
    obtain ⟨k2, h⟩ := h
    refine r_puti (pc := 216) flX12_234 dX12_machine_216 (Or.inl rfl) (fun q hq => by cases hq; rfl) k2 ?_
    replace h := h _ rfl
    refine r_aload_n (pc := 219) (i := 0) dX12_machine_219 rfl rfl ?_
    refine r_aload_n (pc := 220) (i := 0) dX12_machine_220 rfl rfl ?_
    refine r_geti (pc := 221) flX12_7 dX12_machine_221 (Or.inl rfl) k2 ?_
    refine r_puti (pc := 224) flX12_226 dX12_machine_224 (Or.inl rfl) (fun q hq => by cases hq; rfl) k2 ?_
    replace h := h _ rfl
    refine r_iconst (pc := 227) (v := 0) dX12_machine_227 (by decide) ?_
    refine r_istore (pc := 228) (i := 7) dX12_machine_228 rfl (Nat.le_of_ble_eq_true rfl) ?_
    exact h
  · replace h := h.2 c1
    refine r_aload_n (pc := 192) (i := 0) dX12_machine_192 rfl rfl ?_
    refine r_iload_n (pc := 193) (i := 2) dX12_machine_193 rfl rfl ?_
    refine r_iconst (pc := 194) (v := 0) dX12_machine_194 (by decide) ?_
    refine r_iload (pc := 195) (i := 4) dX12_machine_195 rfl ?_
    refine r_bipush (pc := 197) (v := 7) dX12_machine_197 (by decide) ?_
    obtain ⟨k5, h⟩ := h
    refine r_callV (pc := 199) (ci := 12) (as := [_, _, _, _]) (st := []) okX12_isAbove lkX12_262 inX12_isAbove seX12_isAbove ⟨_, rfl, rfl⟩ dX12_machine_199 rfl k5 (Nat.le_of_ble_eq_true rfl) (Nat.zero_le _) (Nat.zero_le _) (Call.mono h (fun r6 M7 h => ?_))
    obtain ⟨v8, rfl, h⟩ := h
    refine r_if_eq (pc := 202) (tgt := 211) dX12_machine_202 (by decide) (fun c9 => ?_) (fun c9 => ?_)
    · replace h := h.1 c9
      refine r_aload_n (pc := 211) (i := 0) dX12_machine_211 rfl rfl ?_
      refine r_iload (pc := 212) (i := 4) dX12_machine_212 rfl ?_
      refine r_iconst (pc := 214) (v := 1) dX12_machine_214 (by decide) ?_
      refine r_iadd (pc := 215) dX12_machine_215 ?_
      obtain ⟨k10, h⟩ := h
      refine r_puti (pc := 216) flX12_234 dX12_machine_216 (Or.inl rfl) (fun q hq => by cases hq; rfl) k10 ?_
      replace h := h _ rfl
      refine r_aload_n (pc := 219) (i := 0) dX12_machine_219 rfl rfl ?_
      refine r_aload_n (pc := 220) (i := 0) dX12_machine_220 rfl rfl ?_
      refine r_geti (pc := 221) flX12_7 dX12_machine_221 (Or.inl rfl) k10 ?_
      refine r_puti (pc := 224) flX12_226 dX12_machine_224 (Or.inl rfl) (fun q hq => by cases hq; rfl) k10 ?_
      replace h := h _ rfl
      refine r_iconst (pc := 227) (v := 0) dX12_machine_227 (by decide) ?_
      refine r_istore (pc := 228) (i := 7) dX12_machine_228 rfl (Nat.le_of_ble_eq_true rfl) ?_
      exact h
    · replace h := h.2 c9
      refine r_aload_n (pc := 205) (i := 0) dX12_machine_205 rfl rfl ?_
      refine r_iconst (pc := 206) (v := 3) dX12_machine_206 (by decide) ?_
      obtain ⟨k13, h⟩ := h
      refine r_callV (pc := 207) (ci := 12) (as := [_]) (st := []) okX12_refused lkX12_253 inX12_refused seX12_refused ⟨_, rfl, rfl⟩ dX12_machine_207 rfl k13 (Nat.le_of_ble_eq_true rfl) (Nat.zero_le _) (Nat.zero_le _) (Call.mono h (fun r14 M15 h => ?_))
      obtain ⟨v16, rfl, h⟩ := h
      exact r_iret (pc := 210) dX12_machine_210 rfl h
theorem vX12_machine_230 {G : GG} {d rc rs : Nat} (p0 : Nat) (x1 : Int32) (x2 : Int32) (x3 : Int32) (x4 : Int32) (x5 : Int32) (x6 : Int32) (x7 : Int32) (z8 : Option Value) (z9 : Option Value) (z10 : Option Value) (hz8 : c1 z8 = true) (hz9 : c1 z9 = true) (hz10 : c1 z10 = true) {M : Mem} {Q : Option Value → Mem → Prop} (h : (x4 < x7 → (x_h M p0).1 = 28 ∧ Call G d 0 0 mX12_least [.ref p0] M (fun r3 M4 => r3 = none ∧ (x_h M4 p0).1 = 28 ∧ Call G d 0 0 mX12_newRow [.ref p0, .int 0] M4 (fun r6 M7 => ∃ v8 : Int32, r6 = some (.int v8) ∧ Q (some (.int v8)) M7))) ∧ (¬ x4 < x7 → (¬ x7 = 0 → (x_h M p0).1 = 28 ∧ (∃ b11, x_r M p0 28 = some b11 ∧ (x6 = 0 → (x_h M b11).1 = 1 ∧ vp_in x7 (x_h M b11).2 ∧ (∀ M15, M15 = x_si M b11 x7.toNatClampNeg 0 → LX12_machine_283 G d rc rs p0 x1 x2 x3 x4 x5 x6 x7 (x7 - 1) 0 z10 M15 Q)) ∧ (¬ x6 = 0 → ∃ b16, x_r M p0 21 = some b16 ∧ (x_h M b16).1 = 1 ∧ vp_in ((40 * x2) + (x7 - 1)) (x_h M b16).2 ∧ (x_h M b11).1 = 1 ∧ vp_in x7 (x_h M b11).2 ∧ (∀ M21, M21 = x_si M b11 x7.toNatClampNeg (x_i M b16 ((40 * x2) + (x7 - 1)).toNatClampNeg) → LX12_machine_283 G d rc rs p0 x1 x2 x3 x4 x5 x6 x7 (x7 - 1) 0 z10 M21 Q)))) ∧ (x7 = 0 → (x_h M p0).1 = 28 ∧ (∃ b23, x_r M p0 28 = some b23 ∧ (x6 = 0 → (x_h M b23).1 = 1 ∧ vp_in x7 (x_h M b23).2 ∧ (∀ M27, M27 = x_si M b23 x7.toNatClampNeg 0 → LX12_machine_283 G d rc rs p0 x1 x2 x3 x4 x5 x6 x7 0 0 z10 M27 Q)) ∧ (¬ x6 = 0 → ∃ b28, x_r M p0 21 = some b28 ∧ (x_h M b28).1 = 1 ∧ vp_in ((40 * x2) + 0) (x_h M b28).2 ∧ (x_h M b23).1 = 1 ∧ vp_in x7 (x_h M b23).2 ∧ (∀ M33, M33 = x_si M b23 x7.toNatClampNeg (x_i M b28 ((40 * x2) + 0).toNatClampNeg) → LX12_machine_283 G d rc rs p0 x1 x2 x3 x4 x5 x6 x7 0 0 z10 M33 Q)))))) : LX12_machine_230 G d rc rs p0 x1 x2 x3 x4 x5 x6 x7 z8 z9 z10 M Q := by
  show Wk G (d + 1) rc rs mX12_machine 230 _ _ M Q
  refine r_iload (pc := 230) (i := 7) dX12_machine_230 rfl ?_
  refine r_iload (pc := 232) (i := 4) dX12_machine_232 rfl ?_
  refine r_icmp_gt (pc := 234) (tgt := 366) dX12_machine_234 (by decide) (fun c1 => ?_) (fun c1 => ?_)
  · replace h := h.1 c1
    refine r_aload_n (pc := 366) (i := 0) dX12_machine_366 rfl rfl ?_
    obtain ⟨k2, h⟩ := h
    refine r_callV (pc := 367) (ci := 12) (as := []) (st := []) okX12_least lkX12_266 inX12_least seX12_least ⟨_, rfl, rfl⟩ dX12_machine_367 rfl k2 (Nat.le_of_ble_eq_true rfl) (Nat.zero_le _) (Nat.zero_le _) (Call.mono h (fun r3 M4 h => ?_))
    obtain ⟨rfl, h⟩ := h
    refine r_aload_n (pc := 370) (i := 0) dX12_machine_370 rfl rfl ?_
    refine r_iconst (pc := 371) (v := 0) dX12_machine_371 (by decide) ?_
    obtain ⟨k5, h⟩ := h
    refine r_callV (pc := 372) (ci := 12) (as := [_]) (st := []) okX12_newRow lkX12_269 inX12_newRow seX12_newRow ⟨_, rfl, rfl⟩ dX12_machine_372 rfl k5 (Nat.le_of_ble_eq_true rfl) (Nat.zero_le _) (Nat.zero_le _) (Call.mono h (fun r6 M7 h => ?_))
    obtain ⟨v8, rfl, h⟩ := h
    exact r_iret (pc := 375) dX12_machine_375 rfl h
  · replace h := h.2 c1
    refine r_iload (pc := 237) (i := 7) dX12_machine_237 rfl ?_
    refine r_if_ne (pc := 239) (tgt := 246) dX12_machine_239 (by decide) (fun c9 => ?_) (fun c9 => ?_)
    · replace h := h.1 c9
      refine r_iload (pc := 246) (i := 7) dX12_machine_246 rfl ?_
      refine r_iconst (pc := 248) (v := 1) dX12_machine_248 (by decide) ?_
      refine r_isub (pc := 249) dX12_machine_249 ?_
      refine r_istore (pc := 250) (i := 8) dX12_machine_250 rfl (Nat.le_of_ble_eq_true rfl) ?_
      refine r_aload_n (pc := 252) (i := 0) dX12_machine_252 rfl rfl ?_
      obtain ⟨k10, h⟩ := h
      obtain ⟨b11, hb11, h⟩ := h
      refine r_getr (pc := 253) flX12_76 dX12_machine_253 rfl k10 hb11 ?_
      refine r_iload (pc := 256) (i := 7) dX12_machine_256 rfl ?_
      refine r_iload (pc := 258) (i := 6) dX12_machine_258 rfl ?_
      refine r_if_eq (pc := 260) (tgt := 278) dX12_machine_260 (by decide) (fun c12 => ?_) (fun c12 => ?_)
      · replace h := h.1 c12
        refine r_iconst (pc := 278) (v := 0) dX12_machine_278 (by decide) ?_
        obtain ⟨k13, h⟩ := h
        obtain ⟨i14, h⟩ := h
        refine r_iast (pc := 279) dX12_machine_279 k13 i14 ?_
        replace h := h _ rfl
        refine r_iconst (pc := 280) (v := 0) dX12_machine_280 (by decide) ?_
        refine r_istore (pc := 281) (i := 9) dX12_machine_281 rfl (Nat.le_of_ble_eq_true rfl) ?_
        exact h
      · replace h := h.2 c12
        refine r_aload_n (pc := 263) (i := 0) dX12_machine_263 rfl rfl ?_
        obtain ⟨b16, hb16, h⟩ := h
        refine r_getr (pc := 264) flX12_66 dX12_machine_264 rfl k10 hb16 ?_
        refine r_bipush (pc := 267) (v := 40) dX12_machine_267 (by decide) ?_
        refine r_iload_n (pc := 269) (i := 2) dX12_machine_269 rfl rfl ?_
        refine r_imul (pc := 270) dX12_machine_270 ?_
        refine r_iload (pc := 271) (i := 8) dX12_machine_271 rfl ?_
        refine r_iadd (pc := 273) dX12_machine_273 ?_
        obtain ⟨k17, h⟩ := h
        obtain ⟨i18, h⟩ := h
        refine r_iald (pc := 274) dX12_machine_274 k17 i18 ?_
        refine r_goto (pc := 275) (tgt := 279) dX12_machine_275 (by decide) ?_
        obtain ⟨k19, h⟩ := h
        obtain ⟨i20, h⟩ := h
        refine r_iast (pc := 279) dX12_machine_279 k19 i20 ?_
        replace h := h _ rfl
        refine r_iconst (pc := 280) (v := 0) dX12_machine_280 (by decide) ?_
        refine r_istore (pc := 281) (i := 9) dX12_machine_281 rfl (Nat.le_of_ble_eq_true rfl) ?_
        exact h
    · replace h := h.2 c9
      refine r_iconst (pc := 242) (v := 0) dX12_machine_242 (by decide) ?_
      refine r_goto (pc := 243) (tgt := 250) dX12_machine_243 (by decide) ?_
      refine r_istore (pc := 250) (i := 8) dX12_machine_250 rfl (Nat.le_of_ble_eq_true rfl) ?_
      refine r_aload_n (pc := 252) (i := 0) dX12_machine_252 rfl rfl ?_
      obtain ⟨k22, h⟩ := h
      obtain ⟨b23, hb23, h⟩ := h
      refine r_getr (pc := 253) flX12_76 dX12_machine_253 rfl k22 hb23 ?_
      refine r_iload (pc := 256) (i := 7) dX12_machine_256 rfl ?_
      refine r_iload (pc := 258) (i := 6) dX12_machine_258 rfl ?_
      refine r_if_eq (pc := 260) (tgt := 278) dX12_machine_260 (by decide) (fun c24 => ?_) (fun c24 => ?_)
      · replace h := h.1 c24
        refine r_iconst (pc := 278) (v := 0) dX12_machine_278 (by decide) ?_
        obtain ⟨k25, h⟩ := h
        obtain ⟨i26, h⟩ := h
        refine r_iast (pc := 279) dX12_machine_279 k25 i26 ?_
        replace h := h _ rfl
        refine r_iconst (pc := 280) (v := 0) dX12_machine_280 (by decide) ?_
        refine r_istore (pc := 281) (i := 9) dX12_machine_281 rfl (Nat.le_of_ble_eq_true rfl) ?_
        exact h
      · replace h := h.2 c24
        refine r_aload_n (pc := 263) (i := 0) dX12_machine_263 rfl rfl ?_
        obtain ⟨b28, hb28, h⟩ := h
        refine r_getr (pc := 264) flX12_66 dX12_machine_264 rfl k22 hb28 ?_
        refine r_bipush (pc := 267) (v := 40) dX12_machine_267 (by decide) ?_
        refine r_iload_n (pc := 269) (i := 2) dX12_machine_269 rfl rfl ?_
        refine r_imul (pc := 270) dX12_machine_270 ?_
        refine r_iload (pc := 271) (i := 8) dX12_machine_271 rfl ?_
        refine r_iadd (pc := 273) dX12_machine_273 ?_
        obtain ⟨k29, h⟩ := h
        obtain ⟨i30, h⟩ := h
        refine r_iald (pc := 274) dX12_machine_274 k29 i30 ?_
        refine r_goto (pc := 275) (tgt := 279) dX12_machine_275 (by decide) ?_
        obtain ⟨k31, h⟩ := h
        obtain ⟨i32, h⟩ := h
        refine r_iast (pc := 279) dX12_machine_279 k31 i32 ?_
        replace h := h _ rfl
        refine r_iconst (pc := 280) (v := 0) dX12_machine_280 (by decide) ?_
        refine r_istore (pc := 281) (i := 9) dX12_machine_281 rfl (Nat.le_of_ble_eq_true rfl) ?_
        exact h
theorem vX12_machine_283 {G : GG} {d rc rs : Nat} (p0 : Nat) (x1 : Int32) (x2 : Int32) (x3 : Int32) (x4 : Int32) (x5 : Int32) (x6 : Int32) (x7 : Int32) (x8 : Int32) (x9 : Int32) (z10 : Option Value) (hz10 : c1 z10 = true) {M : Mem} {Q : Option Value → Mem → Prop} (h : (x_h M p0).1 = 28 ∧ ((x_i M p0 0) ≤ x9 → LX12_machine_230 G d rc rs p0 x1 x2 x3 x4 x5 x6 (x7 + 1) (some (.int x8)) (some (.int x9)) z10 M Q) ∧ (¬ (x_i M p0 0) ≤ x9 → (x5 = 0 → LX12_machine_321 G d rc rs p0 x1 x2 x3 x4 x5 x6 x7 x8 x9 z10 0 M Q) ∧ (¬ x5 = 0 → ∃ b4, x_r M p0 21 = some b4 ∧ (x_h M b4).1 = 1 ∧ vp_in (((40 * x1) + ((x_i M p0 0) * x8)) + x9) (x_h M b4).2 ∧ LX12_machine_321 G d rc rs p0 x1 x2 x3 x4 x5 x6 x7 x8 x9 z10 (x_i M b4 (((40 * x1) + ((x_i M p0 0) * x8)) + x9).toNatClampNeg) M Q))) : LX12_machine_283 G d rc rs p0 x1 x2 x3 x4 x5 x6 x7 x8 x9 z10 M Q := by
  show Wk G (d + 1) rc rs mX12_machine 283 _ _ M Q
  refine r_iload (pc := 283) (i := 9) dX12_machine_283 rfl ?_
  refine r_aload_n (pc := 285) (i := 0) dX12_machine_285 rfl rfl ?_
  obtain ⟨k1, h⟩ := h
  refine r_geti (pc := 286) flX12_7 dX12_machine_286 (Or.inl rfl) k1 ?_
  refine r_icmp_ge (pc := 289) (tgt := 360) dX12_machine_289 (by decide) (fun c2 => ?_) (fun c2 => ?_)
  · replace h := h.1 c2
    refine r_iinc (pc := 360) (i := 7) (v := _ + 1) dX12_machine_360 rfl rfl rfl ?_
    refine r_goto (pc := 363) (tgt := 230) dX12_machine_363 (by decide) ?_
    exact h
  · replace h := h.2 c2
    refine r_iload (pc := 292) (i := 5) dX12_machine_292 rfl ?_
    refine r_if_eq (pc := 294) (tgt := 320) dX12_machine_294 (by decide) (fun c3 => ?_) (fun c3 => ?_)
    · replace h := h.1 c3
      refine r_iconst (pc := 320) (v := 0) dX12_machine_320 (by decide) ?_
      exact h
    · replace h := h.2 c3
      refine r_aload_n (pc := 297) (i := 0) dX12_machine_297 rfl rfl ?_
      obtain ⟨b4, hb4, h⟩ := h
      refine r_getr (pc := 298) flX12_66 dX12_machine_298 rfl k1 hb4 ?_
      refine r_bipush (pc := 301) (v := 40) dX12_machine_301 (by decide) ?_
      refine r_iload_n (pc := 303) (i := 1) dX12_machine_303 rfl rfl ?_
      refine r_imul (pc := 304) dX12_machine_304 ?_
      refine r_aload_n (pc := 305) (i := 0) dX12_machine_305 rfl rfl ?_
      refine r_geti (pc := 306) flX12_7 dX12_machine_306 (Or.inl rfl) k1 ?_
      refine r_iload (pc := 309) (i := 8) dX12_machine_309 rfl ?_
      refine r_imul (pc := 311) dX12_machine_311 ?_
      refine r_iadd (pc := 312) dX12_machine_312 ?_
      refine r_iload (pc := 313) (i := 9) dX12_machine_313 rfl ?_
      refine r_iadd (pc := 315) dX12_machine_315 ?_
      obtain ⟨k5, h⟩ := h
      obtain ⟨i6, h⟩ := h
      refine r_iald (pc := 316) dX12_machine_316 k5 i6 ?_
      refine r_goto (pc := 317) (tgt := 321) dX12_machine_317 (by decide) ?_
      exact h
theorem vX12_machine_321 {G : GG} {d rc rs : Nat} (p0 : Nat) (x1 : Int32) (x2 : Int32) (x3 : Int32) (x4 : Int32) (x5 : Int32) (x6 : Int32) (x7 : Int32) (x8 : Int32) (x9 : Int32) (z10 : Option Value) (u0 : Int32) (hz10 : c1 z10 = true) {M : Mem} {Q : Option Value → Mem → Prop} (h : (x_h M p0).1 = 28 ∧ (∃ b2, x_r M p0 27 = some b2 ∧ (¬ x7 = 0 → (x_h M b2).1 = 1 ∧ vp_in ((27 * x7) + x9) (x_h M b2).2 ∧ (∀ M6, M6 = x_si M b2 ((27 * x7) + x9).toNatClampNeg (u0 + 1) → LX12_machine_283 G d rc rs p0 x1 x2 x3 x4 x5 x6 x7 x8 (x9 + 1) (some (.int u0)) M6 Q)) ∧ (x7 = 0 → (¬ x9 = 0 → (x_h M b2).1 = 1 ∧ vp_in ((27 * x7) + x9) (x_h M b2).2 ∧ (∀ M10, M10 = x_si M b2 ((27 * x7) + x9).toNatClampNeg (u0 + 1) → LX12_machine_283 G d rc rs p0 x1 x2 x3 x4 x5 x6 x7 x8 (x9 + 1) (some (.int u0)) M10 Q)) ∧ (x9 = 0 → (x_h M b2).1 = 1 ∧ vp_in ((27 * x7) + x9) (x_h M b2).2 ∧ (∀ M13, M13 = x_si M b2 ((27 * x7) + x9).toNatClampNeg 0 → LX12_machine_283 G d rc rs p0 x1 x2 x3 x4 x5 x6 x7 x8 (x9 + 1) (some (.int u0)) M13 Q))))) : LX12_machine_321 G d rc rs p0 x1 x2 x3 x4 x5 x6 x7 x8 x9 z10 u0 M Q := by
  show Wk G (d + 1) rc rs mX12_machine 321 _ _ M Q
  refine r_istore (pc := 321) (i := 10) dX12_machine_321 rfl (Nat.le_of_ble_eq_true rfl) ?_
  refine r_aload_n (pc := 323) (i := 0) dX12_machine_323 rfl rfl ?_
  obtain ⟨k1, h⟩ := h
  obtain ⟨b2, hb2, h⟩ := h
  refine r_getr (pc := 324) flX12_73 dX12_machine_324 rfl k1 hb2 ?_
  refine r_bipush (pc := 327) (v := 27) dX12_machine_327 (by decide) ?_
  refine r_iload (pc := 329) (i := 7) dX12_machine_329 rfl ?_
  refine r_imul (pc := 331) dX12_machine_331 ?_
  refine r_iload (pc := 332) (i := 9) dX12_machine_332 rfl ?_
  refine r_iadd (pc := 334) dX12_machine_334 ?_
  refine r_iload (pc := 335) (i := 7) dX12_machine_335 rfl ?_
  refine r_if_ne (pc := 337) (tgt := 349) dX12_machine_337 (by decide) (fun c3 => ?_) (fun c3 => ?_)
  · replace h := h.1 c3
    refine r_iload (pc := 349) (i := 10) dX12_machine_349 rfl ?_
    refine r_iconst (pc := 351) (v := 1) dX12_machine_351 (by decide) ?_
    refine r_iadd (pc := 352) dX12_machine_352 ?_
    obtain ⟨k4, h⟩ := h
    obtain ⟨i5, h⟩ := h
    refine r_iast (pc := 353) dX12_machine_353 k4 i5 ?_
    replace h := h _ rfl
    refine r_iinc (pc := 354) (i := 9) (v := _ + 1) dX12_machine_354 rfl rfl rfl ?_
    refine r_goto (pc := 357) (tgt := 283) dX12_machine_357 (by decide) ?_
    exact h
  · replace h := h.2 c3
    refine r_iload (pc := 340) (i := 9) dX12_machine_340 rfl ?_
    refine r_if_ne (pc := 342) (tgt := 349) dX12_machine_342 (by decide) (fun c7 => ?_) (fun c7 => ?_)
    · replace h := h.1 c7
      refine r_iload (pc := 349) (i := 10) dX12_machine_349 rfl ?_
      refine r_iconst (pc := 351) (v := 1) dX12_machine_351 (by decide) ?_
      refine r_iadd (pc := 352) dX12_machine_352 ?_
      obtain ⟨k8, h⟩ := h
      obtain ⟨i9, h⟩ := h
      refine r_iast (pc := 353) dX12_machine_353 k8 i9 ?_
      replace h := h _ rfl
      refine r_iinc (pc := 354) (i := 9) (v := _ + 1) dX12_machine_354 rfl rfl rfl ?_
      refine r_goto (pc := 357) (tgt := 283) dX12_machine_357 (by decide) ?_
      exact h
    · replace h := h.2 c7
      refine r_iconst (pc := 345) (v := 0) dX12_machine_345 (by decide) ?_
      refine r_goto (pc := 346) (tgt := 353) dX12_machine_346 (by decide) ?_
      obtain ⟨k11, h⟩ := h
      obtain ⟨i12, h⟩ := h
      refine r_iast (pc := 353) dX12_machine_353 k11 i12 ?_
      replace h := h _ rfl
      refine r_iinc (pc := 354) (i := 9) (v := _ + 1) dX12_machine_354 rfl rfl rfl ?_
      refine r_goto (pc := 357) (tgt := 283) dX12_machine_357 (by decide) ?_
      exact h
abbrev LX12_grown_157 (G : GG) (d rc rs : Nat) (p0 : Nat) (x1 : Int32) (x2 : Int32) (x3 : Int32) (x4 : Int32) (z5 : Option Value) (M : Mem) (Q : Option Value → Mem → Prop) : Prop := Wk G (d + 1) rc rs mX12_grown 157 [some (.ref p0), some (.int x1), some (.int x2), some (.int x3), some (.int x4), z5] [] M Q
abbrev LX12_grown_175 (G : GG) (d rc rs : Nat) (p0 : Nat) (x1 : Int32) (x2 : Int32) (x3 : Int32) (x4 : Int32) (x5 : Int32) (M : Mem) (Q : Option Value → Mem → Prop) : Prop := Wk G (d + 1) rc rs mX12_grown 175 [some (.ref p0), some (.int x1), some (.int x2), some (.int x3), some (.int x4), some (.int x5)] [] M Q
theorem eX12_grown {G : GG} {d rc rs : Nat} (o : Nat) (a1 : Int32) (a2 : Int32) (a3 : Int32)  {M : Mem} {Q : Option Value → Mem → Prop} (h : Call G d 0 0 mX12_in [.int a1, .int 0, .int 5] M (fun r1 M2 => ∃ v3 : Int32, r1 = some (.int v3) ∧ (v3 = 0 → (x_h M2 o).1 = 28 ∧ Call G d 0 0 mX12_refused [.ref o, .int 1] M2 (fun r6 M7 => ∃ v8 : Int32, r6 = some (.int v8) ∧ Q (some (.int v8)) M7)) ∧ (¬ v3 = 0 → Call G d 0 0 mX12_in [.int a2, .int 0, .int 2] M2 (fun r9 M10 => ∃ v11 : Int32, r9 = some (.int v11) ∧ (v11 = 0 → (x_h M10 o).1 = 28 ∧ Call G d 0 0 mX12_refused [.ref o, .int 1] M10 (fun r14 M15 => ∃ v16 : Int32, r14 = some (.int v16) ∧ Q (some (.int v16)) M15)) ∧ (¬ v11 = 0 → Call G d 0 0 mX12_in [.int a3, .int 1, .int 8] M10 (fun r17 M18 => ∃ v19 : Int32, r17 = some (.int v19) ∧ (¬ v19 = 0 → (x_h M18 o).1 = 28 ∧ (¬ (x_i M18 o 1) = 10 → ∃ b23, x_r M18 o 19 = some b23 ∧ (x_h M18 b23).1 = 1 ∧ vp_in a1 (x_h M18 b23).2 ∧ (¬ (x_i M18 b23 a1.toNatClampNeg) = (-1) → ((x_i M18 b23 a1.toNatClampNeg) = a2 → ∃ b28, x_r M18 o 20 = some b28 ∧ (x_h M18 b28).1 = 1 ∧ vp_in a1 (x_h M18 b28).2 ∧ ((a3 * (x_i M18 o 0)) ≤ (x_i M18 b28 a1.toNatClampNeg) → Call G d 0 0 mX12_isAbove [.ref o, .int a1, .int 0, .int (a3 * (x_i M18 o 0)), .int (a3 - 1)] M18 (fun r32 M33 => ∃ v34 : Int32, r32 = some (.int v34) ∧ (¬ v34 = 0 → (x_h M33 o).1 = 28 ∧ Call G d 0 0 mX12_refused [.ref o, .int 3] M33 (fun r37 M38 => ∃ v39 : Int32, r37 = some (.int v39) ∧ Q (some (.int v39)) M38)) ∧ (v34 = 0 → (x_h M33 o).1 = 28 ∧ (∃ b41, x_r M33 o 21 = some b41 ∧ (x_h M33 b41).1 = 1 ∧ vp_in (40 * a1) (x_h M33 b41).2 ∧ ((x_i M33 b41 (40 * a1).toNatClampNeg) = 0 → ∀ M45, M45 = x_si M33 o 25 a3 → ∀ M46, M46 = x_si M45 o 26 (x_i M45 o 0) → LX12_grown_157 G d rc rs o a1 a2 a3 0 none M46 Q) ∧ (¬ (x_i M33 b41 (40 * a1).toNatClampNeg) = 0 → Call G d 0 0 mX12_refused [.ref o, .int 3] M33 (fun r47 M48 => ∃ v49 : Int32, r47 = some (.int v49) ∧ Q (some (.int v49)) M48)))))) ∧ (¬ (a3 * (x_i M18 o 0)) ≤ (x_i M18 b28 a1.toNatClampNeg) → Call G d 0 0 mX12_refused [.ref o, .int 12] M18 (fun r50 M51 => ∃ v52 : Int32, r50 = some (.int v52) ∧ Q (some (.int v52)) M51))) ∧ (¬ (x_i M18 b23 a1.toNatClampNeg) = a2 → Call G d 0 0 mX12_refused [.ref o, .int 11] M18 (fun r53 M54 => ∃ v55 : Int32, r53 = some (.int v55) ∧ Q (some (.int v55)) M54))) ∧ ((x_i M18 b23 a1.toNatClampNeg) = (-1) → Call G d 0 0 mX12_refused [.ref o, .int 10] M18 (fun r56 M57 => ∃ v58 : Int32, r56 = some (.int v58) ∧ Q (some (.int v58)) M57))) ∧ ((x_i M18 o 1) = 10 → Call G d 0 0 mX12_refused [.ref o, .int 2] M18 (fun r59 M60 => ∃ v61 : Int32, r59 = some (.int v61) ∧ Q (some (.int v61)) M60))) ∧ (v19 = 0 → (x_h M18 o).1 = 28 ∧ Call G d 0 0 mX12_refused [.ref o, .int 1] M18 (fun r63 M64 => ∃ v65 : Int32, r63 = some (.int v65) ∧ Q (some (.int v65)) M64)))))))) : Call G (d + 1) rc rs mX12_grown [.ref o, .int a1, .int a2, .int a3] M Q := by
  refine call_of (by decide) (Nat.le_of_ble_eq_true rfl) ?_
  show Wk G (d + 1) rc rs mX12_grown 0 [some (.ref o), some (.int a1), some (.int a2), some (.int a3), none, none] [] M Q
  refine r_iload_n (pc := 0) (i := 1) dX12_grown_0 rfl rfl ?_
  refine r_iconst (pc := 1) (v := 0) dX12_grown_1 (by decide) ?_
  refine r_iconst (pc := 2) (v := 5) dX12_grown_2 (by decide) ?_
  refine r_callS (pc := 3) (as := [_, _, _]) (st := []) okX12_in lkX12_218 stX12_in dX12_grown_3 rfl (Nat.le_of_ble_eq_true rfl) (Nat.zero_le _) (Nat.zero_le _) (Call.mono h (fun r1 M2 h => ?_))
  obtain ⟨v3, rfl, h⟩ := h
  refine r_if_eq (pc := 6) (tgt := 28) dX12_grown_6 (by decide) (fun c4 => ?_) (fun c4 => ?_)
  · replace h := h.1 c4
    refine r_aload_n (pc := 28) (i := 0) dX12_grown_28 rfl rfl ?_
    refine r_iconst (pc := 29) (v := 1) dX12_grown_29 (by decide) ?_
    obtain ⟨k5, h⟩ := h
    refine r_callV (pc := 30) (ci := 12) (as := [_]) (st := []) okX12_refused lkX12_253 inX12_refused seX12_refused ⟨_, rfl, rfl⟩ dX12_grown_30 rfl k5 (Nat.le_of_ble_eq_true rfl) (Nat.zero_le _) (Nat.zero_le _) (Call.mono h (fun r6 M7 h => ?_))
    obtain ⟨v8, rfl, h⟩ := h
    exact r_iret (pc := 33) dX12_grown_33 rfl h
  · replace h := h.2 c4
    refine r_iload_n (pc := 9) (i := 2) dX12_grown_9 rfl rfl ?_
    refine r_iconst (pc := 10) (v := 0) dX12_grown_10 (by decide) ?_
    refine r_iconst (pc := 11) (v := 2) dX12_grown_11 (by decide) ?_
    refine r_callS (pc := 12) (as := [_, _, _]) (st := []) okX12_in lkX12_218 stX12_in dX12_grown_12 rfl (Nat.le_of_ble_eq_true rfl) (Nat.zero_le _) (Nat.zero_le _) (Call.mono h (fun r9 M10 h => ?_))
    obtain ⟨v11, rfl, h⟩ := h
    refine r_if_eq (pc := 15) (tgt := 28) dX12_grown_15 (by decide) (fun c12 => ?_) (fun c12 => ?_)
    · replace h := h.1 c12
      refine r_aload_n (pc := 28) (i := 0) dX12_grown_28 rfl rfl ?_
      refine r_iconst (pc := 29) (v := 1) dX12_grown_29 (by decide) ?_
      obtain ⟨k13, h⟩ := h
      refine r_callV (pc := 30) (ci := 12) (as := [_]) (st := []) okX12_refused lkX12_253 inX12_refused seX12_refused ⟨_, rfl, rfl⟩ dX12_grown_30 rfl k13 (Nat.le_of_ble_eq_true rfl) (Nat.zero_le _) (Nat.zero_le _) (Call.mono h (fun r14 M15 h => ?_))
      obtain ⟨v16, rfl, h⟩ := h
      exact r_iret (pc := 33) dX12_grown_33 rfl h
    · replace h := h.2 c12
      refine r_iload_n (pc := 18) (i := 3) dX12_grown_18 rfl rfl ?_
      refine r_iconst (pc := 19) (v := 1) dX12_grown_19 (by decide) ?_
      refine r_bipush (pc := 20) (v := 8) dX12_grown_20 (by decide) ?_
      refine r_callS (pc := 22) (as := [_, _, _]) (st := []) okX12_in lkX12_218 stX12_in dX12_grown_22 rfl (Nat.le_of_ble_eq_true rfl) (Nat.zero_le _) (Nat.zero_le _) (Call.mono h (fun r17 M18 h => ?_))
      obtain ⟨v19, rfl, h⟩ := h
      refine r_if_ne (pc := 25) (tgt := 34) dX12_grown_25 (by decide) (fun c20 => ?_) (fun c20 => ?_)
      · replace h := h.1 c20
        refine r_aload_n (pc := 34) (i := 0) dX12_grown_34 rfl rfl ?_
        obtain ⟨k21, h⟩ := h
        refine r_geti (pc := 35) flX12_215 dX12_grown_35 (Or.inl rfl) k21 ?_
        refine r_bipush (pc := 38) (v := 10) dX12_grown_38 (by decide) ?_
        refine r_icmp_ne (pc := 40) (tgt := 49) dX12_grown_40 (by decide) (fun c22 => ?_) (fun c22 => ?_)
        · replace h := h.1 c22
          refine r_aload_n (pc := 49) (i := 0) dX12_grown_49 rfl rfl ?_
          obtain ⟨b23, hb23, h⟩ := h
          refine r_getr (pc := 50) flX12_60 dX12_grown_50 rfl k21 hb23 ?_
          refine r_iload_n (pc := 53) (i := 1) dX12_grown_53 rfl rfl ?_
          obtain ⟨k24, h⟩ := h
          obtain ⟨i25, h⟩ := h
          refine r_iald (pc := 54) dX12_grown_54 k24 i25 ?_
          refine r_iconst (pc := 55) (v := (-1)) dX12_grown_55 (by decide) ?_
          refine r_icmp_ne (pc := 56) (tgt := 66) dX12_grown_56 (by decide) (fun c26 => ?_) (fun c26 => ?_)
          · replace h := h.1 c26
            refine r_aload_n (pc := 66) (i := 0) dX12_grown_66 rfl rfl ?_
            refine r_getr (pc := 67) flX12_60 dX12_grown_67 rfl k21 hb23 ?_
            refine r_iload_n (pc := 70) (i := 1) dX12_grown_70 rfl rfl ?_
            refine r_iald (pc := 71) dX12_grown_71 k24 i25 ?_
            refine r_iload_n (pc := 72) (i := 2) dX12_grown_72 rfl rfl ?_
            refine r_icmp_eq (pc := 73) (tgt := 83) dX12_grown_73 (by decide) (fun c27 => ?_) (fun c27 => ?_)
            · replace h := h.1 c27
              refine r_aload_n (pc := 83) (i := 0) dX12_grown_83 rfl rfl ?_
              obtain ⟨b28, hb28, h⟩ := h
              refine r_getr (pc := 84) flX12_63 dX12_grown_84 rfl k21 hb28 ?_
              refine r_iload_n (pc := 87) (i := 1) dX12_grown_87 rfl rfl ?_
              obtain ⟨k29, h⟩ := h
              obtain ⟨i30, h⟩ := h
              refine r_iald (pc := 88) dX12_grown_88 k29 i30 ?_
              refine r_iload_n (pc := 89) (i := 3) dX12_grown_89 rfl rfl ?_
              refine r_aload_n (pc := 90) (i := 0) dX12_grown_90 rfl rfl ?_
              refine r_geti (pc := 91) flX12_7 dX12_grown_91 (Or.inl rfl) k21 ?_
              refine r_imul (pc := 94) dX12_grown_94 ?_
              refine r_icmp_ge (pc := 95) (tgt := 105) dX12_grown_95 (by decide) (fun c31 => ?_) (fun c31 => ?_)
              · replace h := h.1 c31
                refine r_aload_n (pc := 105) (i := 0) dX12_grown_105 rfl rfl ?_
                refine r_iload_n (pc := 106) (i := 1) dX12_grown_106 rfl rfl ?_
                refine r_iconst (pc := 107) (v := 0) dX12_grown_107 (by decide) ?_
                refine r_iload_n (pc := 108) (i := 3) dX12_grown_108 rfl rfl ?_
                refine r_aload_n (pc := 109) (i := 0) dX12_grown_109 rfl rfl ?_
                refine r_geti (pc := 110) flX12_7 dX12_grown_110 (Or.inl rfl) k21 ?_
                refine r_imul (pc := 113) dX12_grown_113 ?_
                refine r_iload_n (pc := 114) (i := 3) dX12_grown_114 rfl rfl ?_
                refine r_iconst (pc := 115) (v := 1) dX12_grown_115 (by decide) ?_
                refine r_isub (pc := 116) dX12_grown_116 ?_
                refine r_callV (pc := 117) (ci := 12) (as := [_, _, _, _]) (st := []) okX12_isAbove lkX12_262 inX12_isAbove seX12_isAbove ⟨_, rfl, rfl⟩ dX12_grown_117 rfl k21 (Nat.le_of_ble_eq_true rfl) (Nat.zero_le _) (Nat.zero_le _) (Call.mono h (fun r32 M33 h => ?_))
                obtain ⟨v34, rfl, h⟩ := h
                refine r_if_ne (pc := 120) (tgt := 135) dX12_grown_120 (by decide) (fun c35 => ?_) (fun c35 => ?_)
                · replace h := h.1 c35
                  refine r_aload_n (pc := 135) (i := 0) dX12_grown_135 rfl rfl ?_
                  refine r_iconst (pc := 136) (v := 3) dX12_grown_136 (by decide) ?_
                  obtain ⟨k36, h⟩ := h
                  refine r_callV (pc := 137) (ci := 12) (as := [_]) (st := []) okX12_refused lkX12_253 inX12_refused seX12_refused ⟨_, rfl, rfl⟩ dX12_grown_137 rfl k36 (Nat.le_of_ble_eq_true rfl) (Nat.zero_le _) (Nat.zero_le _) (Call.mono h (fun r37 M38 h => ?_))
                  obtain ⟨v39, rfl, h⟩ := h
                  exact r_iret (pc := 140) dX12_grown_140 rfl h
                · replace h := h.2 c35
                  refine r_aload_n (pc := 123) (i := 0) dX12_grown_123 rfl rfl ?_
                  obtain ⟨k40, h⟩ := h
                  obtain ⟨b41, hb41, h⟩ := h
                  refine r_getr (pc := 124) flX12_66 dX12_grown_124 rfl k40 hb41 ?_
                  refine r_bipush (pc := 127) (v := 40) dX12_grown_127 (by decide) ?_
                  refine r_iload_n (pc := 129) (i := 1) dX12_grown_129 rfl rfl ?_
                  refine r_imul (pc := 130) dX12_grown_130 ?_
                  obtain ⟨k42, h⟩ := h
                  obtain ⟨i43, h⟩ := h
                  refine r_iald (pc := 131) dX12_grown_131 k42 i43 ?_
                  refine r_if_eq (pc := 132) (tgt := 141) dX12_grown_132 (by decide) (fun c44 => ?_) (fun c44 => ?_)
                  · replace h := h.1 c44
                    refine r_aload_n (pc := 141) (i := 0) dX12_grown_141 rfl rfl ?_
                    refine r_iload_n (pc := 142) (i := 3) dX12_grown_142 rfl rfl ?_
                    refine r_puti (pc := 143) flX12_234 dX12_grown_143 (Or.inl rfl) (fun q hq => by cases hq; rfl) k40 ?_
                    replace h := h _ rfl
                    refine r_aload_n (pc := 146) (i := 0) dX12_grown_146 rfl rfl ?_
                    refine r_aload_n (pc := 147) (i := 0) dX12_grown_147 rfl rfl ?_
                    refine r_geti (pc := 148) flX12_7 dX12_grown_148 (Or.inl rfl) k40 ?_
                    refine r_puti (pc := 151) flX12_226 dX12_grown_151 (Or.inl rfl) (fun q hq => by cases hq; rfl) k40 ?_
                    replace h := h _ rfl
                    refine r_iconst (pc := 154) (v := 0) dX12_grown_154 (by decide) ?_
                    refine r_istore (pc := 155) (i := 4) dX12_grown_155 rfl (Nat.le_of_ble_eq_true rfl) ?_
                    exact h
                  · replace h := h.2 c44
                    refine r_aload_n (pc := 135) (i := 0) dX12_grown_135 rfl rfl ?_
                    refine r_iconst (pc := 136) (v := 3) dX12_grown_136 (by decide) ?_
                    refine r_callV (pc := 137) (ci := 12) (as := [_]) (st := []) okX12_refused lkX12_253 inX12_refused seX12_refused ⟨_, rfl, rfl⟩ dX12_grown_137 rfl k40 (Nat.le_of_ble_eq_true rfl) (Nat.zero_le _) (Nat.zero_le _) (Call.mono h (fun r47 M48 h => ?_))
                    obtain ⟨v49, rfl, h⟩ := h
                    exact r_iret (pc := 140) dX12_grown_140 rfl h
              · replace h := h.2 c31
                refine r_aload_n (pc := 98) (i := 0) dX12_grown_98 rfl rfl ?_
                refine r_bipush (pc := 99) (v := 12) dX12_grown_99 (by decide) ?_
                refine r_callV (pc := 101) (ci := 12) (as := [_]) (st := []) okX12_refused lkX12_253 inX12_refused seX12_refused ⟨_, rfl, rfl⟩ dX12_grown_101 rfl k21 (Nat.le_of_ble_eq_true rfl) (Nat.zero_le _) (Nat.zero_le _) (Call.mono h (fun r50 M51 h => ?_))
                obtain ⟨v52, rfl, h⟩ := h
                exact r_iret (pc := 104) dX12_grown_104 rfl h
            · replace h := h.2 c27
              refine r_aload_n (pc := 76) (i := 0) dX12_grown_76 rfl rfl ?_
              refine r_bipush (pc := 77) (v := 11) dX12_grown_77 (by decide) ?_
              refine r_callV (pc := 79) (ci := 12) (as := [_]) (st := []) okX12_refused lkX12_253 inX12_refused seX12_refused ⟨_, rfl, rfl⟩ dX12_grown_79 rfl k21 (Nat.le_of_ble_eq_true rfl) (Nat.zero_le _) (Nat.zero_le _) (Call.mono h (fun r53 M54 h => ?_))
              obtain ⟨v55, rfl, h⟩ := h
              exact r_iret (pc := 82) dX12_grown_82 rfl h
          · replace h := h.2 c26
            refine r_aload_n (pc := 59) (i := 0) dX12_grown_59 rfl rfl ?_
            refine r_bipush (pc := 60) (v := 10) dX12_grown_60 (by decide) ?_
            refine r_callV (pc := 62) (ci := 12) (as := [_]) (st := []) okX12_refused lkX12_253 inX12_refused seX12_refused ⟨_, rfl, rfl⟩ dX12_grown_62 rfl k21 (Nat.le_of_ble_eq_true rfl) (Nat.zero_le _) (Nat.zero_le _) (Call.mono h (fun r56 M57 h => ?_))
            obtain ⟨v58, rfl, h⟩ := h
            exact r_iret (pc := 65) dX12_grown_65 rfl h
        · replace h := h.2 c22
          refine r_aload_n (pc := 43) (i := 0) dX12_grown_43 rfl rfl ?_
          refine r_iconst (pc := 44) (v := 2) dX12_grown_44 (by decide) ?_
          refine r_callV (pc := 45) (ci := 12) (as := [_]) (st := []) okX12_refused lkX12_253 inX12_refused seX12_refused ⟨_, rfl, rfl⟩ dX12_grown_45 rfl k21 (Nat.le_of_ble_eq_true rfl) (Nat.zero_le _) (Nat.zero_le _) (Call.mono h (fun r59 M60 h => ?_))
          obtain ⟨v61, rfl, h⟩ := h
          exact r_iret (pc := 48) dX12_grown_48 rfl h
      · replace h := h.2 c20
        refine r_aload_n (pc := 28) (i := 0) dX12_grown_28 rfl rfl ?_
        refine r_iconst (pc := 29) (v := 1) dX12_grown_29 (by decide) ?_
        obtain ⟨k62, h⟩ := h
        refine r_callV (pc := 30) (ci := 12) (as := [_]) (st := []) okX12_refused lkX12_253 inX12_refused seX12_refused ⟨_, rfl, rfl⟩ dX12_grown_30 rfl k62 (Nat.le_of_ble_eq_true rfl) (Nat.zero_le _) (Nat.zero_le _) (Call.mono h (fun r63 M64 h => ?_))
        obtain ⟨v65, rfl, h⟩ := h
        exact r_iret (pc := 33) dX12_grown_33 rfl h
theorem vX12_grown_157 {G : GG} {d rc rs : Nat} (p0 : Nat) (x1 : Int32) (x2 : Int32) (x3 : Int32) (x4 : Int32) (z5 : Option Value) (hz5 : c1 z5 = true) {M : Mem} {Q : Option Value → Mem → Prop} (h : (x3 ≤ x4 → (x_h M p0).1 = 28 ∧ Call G d 0 0 mX12_least [.ref p0] M (fun r3 M4 => r3 = none ∧ (x_h M4 p0).1 = 28 ∧ Call G d 0 0 mX12_newRow [.ref p0, .int 1] M4 (fun r6 M7 => ∃ v8 : Int32, r6 = some (.int v8) ∧ Q (some (.int v8)) M7))) ∧ (¬ x3 ≤ x4 → (x_h M p0).1 = 28 ∧ (∃ b10, x_r M p0 28 = some b10 ∧ (x_h M b10).1 = 1 ∧ vp_in x4 (x_h M b10).2 ∧ (∀ M13, M13 = x_si M b10 x4.toNatClampNeg x4 → LX12_grown_175 G d rc rs p0 x1 x2 x3 x4 0 M13 Q)))) : LX12_grown_157 G d rc rs p0 x1 x2 x3 x4 z5 M Q := by
  show Wk G (d + 1) rc rs mX12_grown 157 _ _ M Q
  refine r_iload (pc := 157) (i := 4) dX12_grown_157 rfl ?_
  refine r_iload_n (pc := 159) (i := 3) dX12_grown_159 rfl rfl ?_
  refine r_icmp_ge (pc := 160) (tgt := 229) dX12_grown_160 (by decide) (fun c1 => ?_) (fun c1 => ?_)
  · replace h := h.1 c1
    refine r_aload_n (pc := 229) (i := 0) dX12_grown_229 rfl rfl ?_
    obtain ⟨k2, h⟩ := h
    refine r_callV (pc := 230) (ci := 12) (as := []) (st := []) okX12_least lkX12_266 inX12_least seX12_least ⟨_, rfl, rfl⟩ dX12_grown_230 rfl k2 (Nat.le_of_ble_eq_true rfl) (Nat.zero_le _) (Nat.zero_le _) (Call.mono h (fun r3 M4 h => ?_))
    obtain ⟨rfl, h⟩ := h
    refine r_aload_n (pc := 233) (i := 0) dX12_grown_233 rfl rfl ?_
    refine r_iconst (pc := 234) (v := 1) dX12_grown_234 (by decide) ?_
    obtain ⟨k5, h⟩ := h
    refine r_callV (pc := 235) (ci := 12) (as := [_]) (st := []) okX12_newRow lkX12_269 inX12_newRow seX12_newRow ⟨_, rfl, rfl⟩ dX12_grown_235 rfl k5 (Nat.le_of_ble_eq_true rfl) (Nat.zero_le _) (Nat.zero_le _) (Call.mono h (fun r6 M7 h => ?_))
    obtain ⟨v8, rfl, h⟩ := h
    exact r_iret (pc := 238) dX12_grown_238 rfl h
  · replace h := h.2 c1
    refine r_aload_n (pc := 163) (i := 0) dX12_grown_163 rfl rfl ?_
    obtain ⟨k9, h⟩ := h
    obtain ⟨b10, hb10, h⟩ := h
    refine r_getr (pc := 164) flX12_76 dX12_grown_164 rfl k9 hb10 ?_
    refine r_iload (pc := 167) (i := 4) dX12_grown_167 rfl ?_
    refine r_iload (pc := 169) (i := 4) dX12_grown_169 rfl ?_
    obtain ⟨k11, h⟩ := h
    obtain ⟨i12, h⟩ := h
    refine r_iast (pc := 171) dX12_grown_171 k11 i12 ?_
    replace h := h _ rfl
    refine r_iconst (pc := 172) (v := 0) dX12_grown_172 (by decide) ?_
    refine r_istore (pc := 173) (i := 5) dX12_grown_173 rfl (Nat.le_of_ble_eq_true rfl) ?_
    exact h
theorem vX12_grown_175 {G : GG} {d rc rs : Nat} (p0 : Nat) (x1 : Int32) (x2 : Int32) (x3 : Int32) (x4 : Int32) (x5 : Int32)  {M : Mem} {Q : Option Value → Mem → Prop} (h : (x_h M p0).1 = 28 ∧ ((x_i M p0 0) ≤ x5 → LX12_grown_157 G d rc rs p0 x1 x2 x3 (x4 + 1) (some (.int x5)) M Q) ∧ (¬ (x_i M p0 0) ≤ x5 → ∃ b3, x_r M p0 27 = some b3 ∧ ∃ b4, x_r M p0 21 = some b4 ∧ (x_h M b4).1 = 1 ∧ vp_in (((40 * x1) + ((x_i M p0 0) * x4)) + x5) (x_h M b4).2 ∧ (x_h M b3).1 = 1 ∧ vp_in ((27 * x4) + x5) (x_h M b3).2 ∧ (∀ M9, M9 = x_si M b3 ((27 * x4) + x5).toNatClampNeg (x_i M b4 (((40 * x1) + ((x_i M p0 0) * x4)) + x5).toNatClampNeg) → LX12_grown_175 G d rc rs p0 x1 x2 x3 x4 (x5 + 1) M9 Q))) : LX12_grown_175 G d rc rs p0 x1 x2 x3 x4 x5 M Q := by
  show Wk G (d + 1) rc rs mX12_grown 175 _ _ M Q
  refine r_iload (pc := 175) (i := 5) dX12_grown_175 rfl ?_
  refine r_aload_n (pc := 177) (i := 0) dX12_grown_177 rfl rfl ?_
  obtain ⟨k1, h⟩ := h
  refine r_geti (pc := 178) flX12_7 dX12_grown_178 (Or.inl rfl) k1 ?_
  refine r_icmp_ge (pc := 181) (tgt := 223) dX12_grown_181 (by decide) (fun c2 => ?_) (fun c2 => ?_)
  · replace h := h.1 c2
    refine r_iinc (pc := 223) (i := 4) (v := _ + 1) dX12_grown_223 rfl rfl rfl ?_
    refine r_goto (pc := 226) (tgt := 157) dX12_grown_226 (by decide) ?_
    exact h
  · replace h := h.2 c2
    refine r_aload_n (pc := 184) (i := 0) dX12_grown_184 rfl rfl ?_
    obtain ⟨b3, hb3, h⟩ := h
    refine r_getr (pc := 185) flX12_73 dX12_grown_185 rfl k1 hb3 ?_
    refine r_bipush (pc := 188) (v := 27) dX12_grown_188 (by decide) ?_
    refine r_iload (pc := 190) (i := 4) dX12_grown_190 rfl ?_
    refine r_imul (pc := 192) dX12_grown_192 ?_
    refine r_iload (pc := 193) (i := 5) dX12_grown_193 rfl ?_
    refine r_iadd (pc := 195) dX12_grown_195 ?_
    refine r_aload_n (pc := 196) (i := 0) dX12_grown_196 rfl rfl ?_
    obtain ⟨b4, hb4, h⟩ := h
    refine r_getr (pc := 197) flX12_66 dX12_grown_197 rfl k1 hb4 ?_
    refine r_bipush (pc := 200) (v := 40) dX12_grown_200 (by decide) ?_
    refine r_iload_n (pc := 202) (i := 1) dX12_grown_202 rfl rfl ?_
    refine r_imul (pc := 203) dX12_grown_203 ?_
    refine r_aload_n (pc := 204) (i := 0) dX12_grown_204 rfl rfl ?_
    refine r_geti (pc := 205) flX12_7 dX12_grown_205 (Or.inl rfl) k1 ?_
    refine r_iload (pc := 208) (i := 4) dX12_grown_208 rfl ?_
    refine r_imul (pc := 210) dX12_grown_210 ?_
    refine r_iadd (pc := 211) dX12_grown_211 ?_
    refine r_iload (pc := 212) (i := 5) dX12_grown_212 rfl ?_
    refine r_iadd (pc := 214) dX12_grown_214 ?_
    obtain ⟨k5, h⟩ := h
    obtain ⟨i6, h⟩ := h
    refine r_iald (pc := 215) dX12_grown_215 k5 i6 ?_
    obtain ⟨k7, h⟩ := h
    obtain ⟨i8, h⟩ := h
    refine r_iast (pc := 216) dX12_grown_216 k7 i8 ?_
    replace h := h _ rfl
    refine r_iinc (pc := 217) (i := 5) (v := _ + 1) dX12_grown_217 rfl rfl rfl ?_
    refine r_goto (pc := 220) (tgt := 175) dX12_grown_220 (by decide) ?_
    exact h
abbrev LX12_ring_154 (G : GG) (d rc rs : Nat) (p0 : Nat) (x1 : Int32) (x2 : Int32) (x3 : Int32) (x4 : Int32) (x5 : Int32) (z6 : Option Value) (z7 : Option Value) (M : Mem) (Q : Option Value → Mem → Prop) : Prop := Wk G (d + 1) rc rs mX12_ring 154 [some (.ref p0), some (.int x1), some (.int x2), some (.int x3), some (.int x4), some (.int x5), z6, z7] [] M Q
abbrev LX12_ring_185 (G : GG) (d rc rs : Nat) (p0 : Nat) (x1 : Int32) (x2 : Int32) (x3 : Int32) (x4 : Int32) (x5 : Int32) (x6 : Int32) (z7 : Option Value) (M : Mem) (Q : Option Value → Mem → Prop) : Prop := Wk G (d + 1) rc rs mX12_ring 185 [some (.ref p0), some (.int x1), some (.int x2), some (.int x3), some (.int x4), some (.int x5), some (.int x6), z7] [] M Q
theorem eX12_ring {G : GG} {d rc rs : Nat} (o : Nat) (a1 : Int32) (a2 : Int32) (a3 : Int32) (a4 : Int32)  {M : Mem} {Q : Option Value → Mem → Prop} (h : Call G d 0 0 mX12_in [.int a1, .int 0, .int 5] M (fun r1 M2 => ∃ v3 : Int32, r1 = some (.int v3) ∧ (v3 = 0 → (x_h M2 o).1 = 28 ∧ Call G d 0 0 mX12_refused [.ref o, .int 1] M2 (fun r6 M7 => ∃ v8 : Int32, r6 = some (.int v8) ∧ Q (some (.int v8)) M7)) ∧ (¬ v3 = 0 → Call G d 0 0 mX12_in [.int a2, .int 0, .int 2] M2 (fun r9 M10 => ∃ v11 : Int32, r9 = some (.int v11) ∧ (v11 = 0 → (x_h M10 o).1 = 28 ∧ Call G d 0 0 mX12_refused [.ref o, .int 1] M10 (fun r14 M15 => ∃ v16 : Int32, r14 = some (.int v16) ∧ Q (some (.int v16)) M15)) ∧ (¬ v11 = 0 → Call G d 0 0 mX12_in [.int a3, .int 0, .int 6] M10 (fun r17 M18 => ∃ v19 : Int32, r17 = some (.int v19) ∧ (v19 = 0 → (x_h M18 o).1 = 28 ∧ Call G d 0 0 mX12_refused [.ref o, .int 1] M18 (fun r22 M23 => ∃ v24 : Int32, r22 = some (.int v24) ∧ Q (some (.int v24)) M23)) ∧ (¬ v19 = 0 → Call G d 0 0 mX12_in [.int a4, .int 1, .int 6] M18 (fun r25 M26 => ∃ v27 : Int32, r25 = some (.int v27) ∧ (¬ v27 = 0 → (x_h M26 o).1 = 28 ∧ (¬ (x_i M26 o 1) = 10 → ∃ b31, x_r M26 o 19 = some b31 ∧ (x_h M26 b31).1 = 1 ∧ vp_in a1 (x_h M26 b31).2 ∧ (¬ (x_i M26 b31 a1.toNatClampNeg) = (-1) → ((x_i M26 b31 a1.toNatClampNeg) = a2 → ∃ b36, x_r M26 o 20 = some b36 ∧ (x_h M26 b36).1 = 1 ∧ vp_in a1 (x_h M26 b36).2 ∧ ((a3 + a4) ≤ (x_i M26 b36 a1.toNatClampNeg) → Call G d 0 0 mX12_isAbove [.ref o, .int a1, .int 0, .int (a3 + a4), .int 7] M26 (fun r40 M41 => ∃ v42 : Int32, r40 = some (.int v42) ∧ (v42 = 0 → (x_h M41 o).1 = 28 ∧ (∀ M45, M45 = x_si M41 o 25 (a3 + a4) → ∀ M46, M46 = x_si M45 o 26 (x_i M45 o 0) → LX12_ring_154 G d rc rs o a1 a2 a3 a4 0 none none M46 Q)) ∧ (¬ v42 = 0 → (x_h M41 o).1 = 28 ∧ Call G d 0 0 mX12_refused [.ref o, .int 3] M41 (fun r48 M49 => ∃ v50 : Int32, r48 = some (.int v50) ∧ Q (some (.int v50)) M49)))) ∧ (¬ (a3 + a4) ≤ (x_i M26 b36 a1.toNatClampNeg) → Call G d 0 0 mX12_refused [.ref o, .int 12] M26 (fun r51 M52 => ∃ v53 : Int32, r51 = some (.int v53) ∧ Q (some (.int v53)) M52))) ∧ (¬ (x_i M26 b31 a1.toNatClampNeg) = a2 → Call G d 0 0 mX12_refused [.ref o, .int 11] M26 (fun r54 M55 => ∃ v56 : Int32, r54 = some (.int v56) ∧ Q (some (.int v56)) M55))) ∧ ((x_i M26 b31 a1.toNatClampNeg) = (-1) → Call G d 0 0 mX12_refused [.ref o, .int 10] M26 (fun r57 M58 => ∃ v59 : Int32, r57 = some (.int v59) ∧ Q (some (.int v59)) M58))) ∧ ((x_i M26 o 1) = 10 → Call G d 0 0 mX12_refused [.ref o, .int 2] M26 (fun r60 M61 => ∃ v62 : Int32, r60 = some (.int v62) ∧ Q (some (.int v62)) M61))) ∧ (v27 = 0 → (x_h M26 o).1 = 28 ∧ Call G d 0 0 mX12_refused [.ref o, .int 1] M26 (fun r64 M65 => ∃ v66 : Int32, r64 = some (.int v66) ∧ Q (some (.int v66)) M65)))))))))) : Call G (d + 1) rc rs mX12_ring [.ref o, .int a1, .int a2, .int a3, .int a4] M Q := by
  refine call_of (by decide) (Nat.le_of_ble_eq_true rfl) ?_
  show Wk G (d + 1) rc rs mX12_ring 0 [some (.ref o), some (.int a1), some (.int a2), some (.int a3), some (.int a4), none, none, none] [] M Q
  refine r_iload_n (pc := 0) (i := 1) dX12_ring_0 rfl rfl ?_
  refine r_iconst (pc := 1) (v := 0) dX12_ring_1 (by decide) ?_
  refine r_iconst (pc := 2) (v := 5) dX12_ring_2 (by decide) ?_
  refine r_callS (pc := 3) (as := [_, _, _]) (st := []) okX12_in lkX12_218 stX12_in dX12_ring_3 rfl (Nat.le_of_ble_eq_true rfl) (Nat.zero_le _) (Nat.zero_le _) (Call.mono h (fun r1 M2 h => ?_))
  obtain ⟨v3, rfl, h⟩ := h
  refine r_if_eq (pc := 6) (tgt := 39) dX12_ring_6 (by decide) (fun c4 => ?_) (fun c4 => ?_)
  · replace h := h.1 c4
    refine r_aload_n (pc := 39) (i := 0) dX12_ring_39 rfl rfl ?_
    refine r_iconst (pc := 40) (v := 1) dX12_ring_40 (by decide) ?_
    obtain ⟨k5, h⟩ := h
    refine r_callV (pc := 41) (ci := 12) (as := [_]) (st := []) okX12_refused lkX12_253 inX12_refused seX12_refused ⟨_, rfl, rfl⟩ dX12_ring_41 rfl k5 (Nat.le_of_ble_eq_true rfl) (Nat.zero_le _) (Nat.zero_le _) (Call.mono h (fun r6 M7 h => ?_))
    obtain ⟨v8, rfl, h⟩ := h
    exact r_iret (pc := 44) dX12_ring_44 rfl h
  · replace h := h.2 c4
    refine r_iload_n (pc := 9) (i := 2) dX12_ring_9 rfl rfl ?_
    refine r_iconst (pc := 10) (v := 0) dX12_ring_10 (by decide) ?_
    refine r_iconst (pc := 11) (v := 2) dX12_ring_11 (by decide) ?_
    refine r_callS (pc := 12) (as := [_, _, _]) (st := []) okX12_in lkX12_218 stX12_in dX12_ring_12 rfl (Nat.le_of_ble_eq_true rfl) (Nat.zero_le _) (Nat.zero_le _) (Call.mono h (fun r9 M10 h => ?_))
    obtain ⟨v11, rfl, h⟩ := h
    refine r_if_eq (pc := 15) (tgt := 39) dX12_ring_15 (by decide) (fun c12 => ?_) (fun c12 => ?_)
    · replace h := h.1 c12
      refine r_aload_n (pc := 39) (i := 0) dX12_ring_39 rfl rfl ?_
      refine r_iconst (pc := 40) (v := 1) dX12_ring_40 (by decide) ?_
      obtain ⟨k13, h⟩ := h
      refine r_callV (pc := 41) (ci := 12) (as := [_]) (st := []) okX12_refused lkX12_253 inX12_refused seX12_refused ⟨_, rfl, rfl⟩ dX12_ring_41 rfl k13 (Nat.le_of_ble_eq_true rfl) (Nat.zero_le _) (Nat.zero_le _) (Call.mono h (fun r14 M15 h => ?_))
      obtain ⟨v16, rfl, h⟩ := h
      exact r_iret (pc := 44) dX12_ring_44 rfl h
    · replace h := h.2 c12
      refine r_iload_n (pc := 18) (i := 3) dX12_ring_18 rfl rfl ?_
      refine r_iconst (pc := 19) (v := 0) dX12_ring_19 (by decide) ?_
      refine r_bipush (pc := 20) (v := 6) dX12_ring_20 (by decide) ?_
      refine r_callS (pc := 22) (as := [_, _, _]) (st := []) okX12_in lkX12_218 stX12_in dX12_ring_22 rfl (Nat.le_of_ble_eq_true rfl) (Nat.zero_le _) (Nat.zero_le _) (Call.mono h (fun r17 M18 h => ?_))
      obtain ⟨v19, rfl, h⟩ := h
      refine r_if_eq (pc := 25) (tgt := 39) dX12_ring_25 (by decide) (fun c20 => ?_) (fun c20 => ?_)
      · replace h := h.1 c20
        refine r_aload_n (pc := 39) (i := 0) dX12_ring_39 rfl rfl ?_
        refine r_iconst (pc := 40) (v := 1) dX12_ring_40 (by decide) ?_
        obtain ⟨k21, h⟩ := h
        refine r_callV (pc := 41) (ci := 12) (as := [_]) (st := []) okX12_refused lkX12_253 inX12_refused seX12_refused ⟨_, rfl, rfl⟩ dX12_ring_41 rfl k21 (Nat.le_of_ble_eq_true rfl) (Nat.zero_le _) (Nat.zero_le _) (Call.mono h (fun r22 M23 h => ?_))
        obtain ⟨v24, rfl, h⟩ := h
        exact r_iret (pc := 44) dX12_ring_44 rfl h
      · replace h := h.2 c20
        refine r_iload (pc := 28) (i := 4) dX12_ring_28 rfl ?_
        refine r_iconst (pc := 30) (v := 1) dX12_ring_30 (by decide) ?_
        refine r_bipush (pc := 31) (v := 6) dX12_ring_31 (by decide) ?_
        refine r_callS (pc := 33) (as := [_, _, _]) (st := []) okX12_in lkX12_218 stX12_in dX12_ring_33 rfl (Nat.le_of_ble_eq_true rfl) (Nat.zero_le _) (Nat.zero_le _) (Call.mono h (fun r25 M26 h => ?_))
        obtain ⟨v27, rfl, h⟩ := h
        refine r_if_ne (pc := 36) (tgt := 45) dX12_ring_36 (by decide) (fun c28 => ?_) (fun c28 => ?_)
        · replace h := h.1 c28
          refine r_aload_n (pc := 45) (i := 0) dX12_ring_45 rfl rfl ?_
          obtain ⟨k29, h⟩ := h
          refine r_geti (pc := 46) flX12_215 dX12_ring_46 (Or.inl rfl) k29 ?_
          refine r_bipush (pc := 49) (v := 10) dX12_ring_49 (by decide) ?_
          refine r_icmp_ne (pc := 51) (tgt := 60) dX12_ring_51 (by decide) (fun c30 => ?_) (fun c30 => ?_)
          · replace h := h.1 c30
            refine r_aload_n (pc := 60) (i := 0) dX12_ring_60 rfl rfl ?_
            obtain ⟨b31, hb31, h⟩ := h
            refine r_getr (pc := 61) flX12_60 dX12_ring_61 rfl k29 hb31 ?_
            refine r_iload_n (pc := 64) (i := 1) dX12_ring_64 rfl rfl ?_
            obtain ⟨k32, h⟩ := h
            obtain ⟨i33, h⟩ := h
            refine r_iald (pc := 65) dX12_ring_65 k32 i33 ?_
            refine r_iconst (pc := 66) (v := (-1)) dX12_ring_66 (by decide) ?_
            refine r_icmp_ne (pc := 67) (tgt := 77) dX12_ring_67 (by decide) (fun c34 => ?_) (fun c34 => ?_)
            · replace h := h.1 c34
              refine r_aload_n (pc := 77) (i := 0) dX12_ring_77 rfl rfl ?_
              refine r_getr (pc := 78) flX12_60 dX12_ring_78 rfl k29 hb31 ?_
              refine r_iload_n (pc := 81) (i := 1) dX12_ring_81 rfl rfl ?_
              refine r_iald (pc := 82) dX12_ring_82 k32 i33 ?_
              refine r_iload_n (pc := 83) (i := 2) dX12_ring_83 rfl rfl ?_
              refine r_icmp_eq (pc := 84) (tgt := 94) dX12_ring_84 (by decide) (fun c35 => ?_) (fun c35 => ?_)
              · replace h := h.1 c35
                refine r_aload_n (pc := 94) (i := 0) dX12_ring_94 rfl rfl ?_
                obtain ⟨b36, hb36, h⟩ := h
                refine r_getr (pc := 95) flX12_63 dX12_ring_95 rfl k29 hb36 ?_
                refine r_iload_n (pc := 98) (i := 1) dX12_ring_98 rfl rfl ?_
                obtain ⟨k37, h⟩ := h
                obtain ⟨i38, h⟩ := h
                refine r_iald (pc := 99) dX12_ring_99 k37 i38 ?_
                refine r_iload_n (pc := 100) (i := 3) dX12_ring_100 rfl rfl ?_
                refine r_iload (pc := 101) (i := 4) dX12_ring_101 rfl ?_
                refine r_iadd (pc := 103) dX12_ring_103 ?_
                refine r_icmp_ge (pc := 104) (tgt := 114) dX12_ring_104 (by decide) (fun c39 => ?_) (fun c39 => ?_)
                · replace h := h.1 c39
                  refine r_aload_n (pc := 114) (i := 0) dX12_ring_114 rfl rfl ?_
                  refine r_iload_n (pc := 115) (i := 1) dX12_ring_115 rfl rfl ?_
                  refine r_iconst (pc := 116) (v := 0) dX12_ring_116 (by decide) ?_
                  refine r_iload_n (pc := 117) (i := 3) dX12_ring_117 rfl rfl ?_
                  refine r_iload (pc := 118) (i := 4) dX12_ring_118 rfl ?_
                  refine r_iadd (pc := 120) dX12_ring_120 ?_
                  refine r_bipush (pc := 121) (v := 7) dX12_ring_121 (by decide) ?_
                  refine r_callV (pc := 123) (ci := 12) (as := [_, _, _, _]) (st := []) okX12_isAbove lkX12_262 inX12_isAbove seX12_isAbove ⟨_, rfl, rfl⟩ dX12_ring_123 rfl k29 (Nat.le_of_ble_eq_true rfl) (Nat.zero_le _) (Nat.zero_le _) (Call.mono h (fun r40 M41 h => ?_))
                  obtain ⟨v42, rfl, h⟩ := h
                  refine r_if_eq (pc := 126) (tgt := 135) dX12_ring_126 (by decide) (fun c43 => ?_) (fun c43 => ?_)
                  · replace h := h.1 c43
                    refine r_aload_n (pc := 135) (i := 0) dX12_ring_135 rfl rfl ?_
                    refine r_iload_n (pc := 136) (i := 3) dX12_ring_136 rfl rfl ?_
                    refine r_iload (pc := 137) (i := 4) dX12_ring_137 rfl ?_
                    refine r_iadd (pc := 139) dX12_ring_139 ?_
                    obtain ⟨k44, h⟩ := h
                    refine r_puti (pc := 140) flX12_234 dX12_ring_140 (Or.inl rfl) (fun q hq => by cases hq; rfl) k44 ?_
                    replace h := h _ rfl
                    refine r_aload_n (pc := 143) (i := 0) dX12_ring_143 rfl rfl ?_
                    refine r_aload_n (pc := 144) (i := 0) dX12_ring_144 rfl rfl ?_
                    refine r_geti (pc := 145) flX12_7 dX12_ring_145 (Or.inl rfl) k44 ?_
                    refine r_puti (pc := 148) flX12_226 dX12_ring_148 (Or.inl rfl) (fun q hq => by cases hq; rfl) k44 ?_
                    replace h := h _ rfl
                    refine r_iconst (pc := 151) (v := 0) dX12_ring_151 (by decide) ?_
                    refine r_istore (pc := 152) (i := 5) dX12_ring_152 rfl (Nat.le_of_ble_eq_true rfl) ?_
                    exact h
                  · replace h := h.2 c43
                    refine r_aload_n (pc := 129) (i := 0) dX12_ring_129 rfl rfl ?_
                    refine r_iconst (pc := 130) (v := 3) dX12_ring_130 (by decide) ?_
                    obtain ⟨k47, h⟩ := h
                    refine r_callV (pc := 131) (ci := 12) (as := [_]) (st := []) okX12_refused lkX12_253 inX12_refused seX12_refused ⟨_, rfl, rfl⟩ dX12_ring_131 rfl k47 (Nat.le_of_ble_eq_true rfl) (Nat.zero_le _) (Nat.zero_le _) (Call.mono h (fun r48 M49 h => ?_))
                    obtain ⟨v50, rfl, h⟩ := h
                    exact r_iret (pc := 134) dX12_ring_134 rfl h
                · replace h := h.2 c39
                  refine r_aload_n (pc := 107) (i := 0) dX12_ring_107 rfl rfl ?_
                  refine r_bipush (pc := 108) (v := 12) dX12_ring_108 (by decide) ?_
                  refine r_callV (pc := 110) (ci := 12) (as := [_]) (st := []) okX12_refused lkX12_253 inX12_refused seX12_refused ⟨_, rfl, rfl⟩ dX12_ring_110 rfl k29 (Nat.le_of_ble_eq_true rfl) (Nat.zero_le _) (Nat.zero_le _) (Call.mono h (fun r51 M52 h => ?_))
                  obtain ⟨v53, rfl, h⟩ := h
                  exact r_iret (pc := 113) dX12_ring_113 rfl h
              · replace h := h.2 c35
                refine r_aload_n (pc := 87) (i := 0) dX12_ring_87 rfl rfl ?_
                refine r_bipush (pc := 88) (v := 11) dX12_ring_88 (by decide) ?_
                refine r_callV (pc := 90) (ci := 12) (as := [_]) (st := []) okX12_refused lkX12_253 inX12_refused seX12_refused ⟨_, rfl, rfl⟩ dX12_ring_90 rfl k29 (Nat.le_of_ble_eq_true rfl) (Nat.zero_le _) (Nat.zero_le _) (Call.mono h (fun r54 M55 h => ?_))
                obtain ⟨v56, rfl, h⟩ := h
                exact r_iret (pc := 93) dX12_ring_93 rfl h
            · replace h := h.2 c34
              refine r_aload_n (pc := 70) (i := 0) dX12_ring_70 rfl rfl ?_
              refine r_bipush (pc := 71) (v := 10) dX12_ring_71 (by decide) ?_
              refine r_callV (pc := 73) (ci := 12) (as := [_]) (st := []) okX12_refused lkX12_253 inX12_refused seX12_refused ⟨_, rfl, rfl⟩ dX12_ring_73 rfl k29 (Nat.le_of_ble_eq_true rfl) (Nat.zero_le _) (Nat.zero_le _) (Call.mono h (fun r57 M58 h => ?_))
              obtain ⟨v59, rfl, h⟩ := h
              exact r_iret (pc := 76) dX12_ring_76 rfl h
          · replace h := h.2 c30
            refine r_aload_n (pc := 54) (i := 0) dX12_ring_54 rfl rfl ?_
            refine r_iconst (pc := 55) (v := 2) dX12_ring_55 (by decide) ?_
            refine r_callV (pc := 56) (ci := 12) (as := [_]) (st := []) okX12_refused lkX12_253 inX12_refused seX12_refused ⟨_, rfl, rfl⟩ dX12_ring_56 rfl k29 (Nat.le_of_ble_eq_true rfl) (Nat.zero_le _) (Nat.zero_le _) (Call.mono h (fun r60 M61 h => ?_))
            obtain ⟨v62, rfl, h⟩ := h
            exact r_iret (pc := 59) dX12_ring_59 rfl h
        · replace h := h.2 c28
          refine r_aload_n (pc := 39) (i := 0) dX12_ring_39 rfl rfl ?_
          refine r_iconst (pc := 40) (v := 1) dX12_ring_40 (by decide) ?_
          obtain ⟨k63, h⟩ := h
          refine r_callV (pc := 41) (ci := 12) (as := [_]) (st := []) okX12_refused lkX12_253 inX12_refused seX12_refused ⟨_, rfl, rfl⟩ dX12_ring_41 rfl k63 (Nat.le_of_ble_eq_true rfl) (Nat.zero_le _) (Nat.zero_le _) (Call.mono h (fun r64 M65 h => ?_))
          obtain ⟨v66, rfl, h⟩ := h
          exact r_iret (pc := 44) dX12_ring_44 rfl h
theorem vX12_ring_154 {G : GG} {d rc rs : Nat} (p0 : Nat) (x1 : Int32) (x2 : Int32) (x3 : Int32) (x4 : Int32) (x5 : Int32) (z6 : Option Value) (z7 : Option Value) (hz6 : c1 z6 = true) (hz7 : c1 z7 = true) {M : Mem} {Q : Option Value → Mem → Prop} (h : (x_h M p0).1 = 28 ∧ ((x_i M p0 25) ≤ x5 → Call G d 0 0 mX12_least [.ref p0] M (fun r3 M4 => r3 = none ∧ (x_h M4 p0).1 = 28 ∧ Call G d 0 0 mX12_newRow [.ref p0, .int 2] M4 (fun r6 M7 => ∃ v8 : Int32, r6 = some (.int v8) ∧ Q (some (.int v8)) M7))) ∧ (¬ (x_i M p0 25) ≤ x5 → ∃ b9, x_r M p0 28 = some b9 ∧ ∃ b10, x_r M p0 21 = some b10 ∧ (x_h M b10).1 = 1 ∧ vp_in ((40 * x1) + x5) (x_h M b10).2 ∧ (x_h M b9).1 = 1 ∧ vp_in x5 (x_h M b9).2 ∧ (∀ M15, M15 = x_si M b9 x5.toNatClampNeg (x_i M b10 ((40 * x1) + x5).toNatClampNeg) → LX12_ring_185 G d rc rs p0 x1 x2 x3 x4 x5 0 z7 M15 Q))) : LX12_ring_154 G d rc rs p0 x1 x2 x3 x4 x5 z6 z7 M Q := by
  show Wk G (d + 1) rc rs mX12_ring 154 _ _ M Q
  refine r_iload (pc := 154) (i := 5) dX12_ring_154 rfl ?_
  refine r_aload_n (pc := 156) (i := 0) dX12_ring_156 rfl rfl ?_
  obtain ⟨k1, h⟩ := h
  refine r_geti (pc := 157) flX12_234 dX12_ring_157 (Or.inl rfl) k1 ?_
  refine r_icmp_ge (pc := 160) (tgt := 254) dX12_ring_160 (by decide) (fun c2 => ?_) (fun c2 => ?_)
  · replace h := h.1 c2
    refine r_aload_n (pc := 254) (i := 0) dX12_ring_254 rfl rfl ?_
    refine r_callV (pc := 255) (ci := 12) (as := []) (st := []) okX12_least lkX12_266 inX12_least seX12_least ⟨_, rfl, rfl⟩ dX12_ring_255 rfl k1 (Nat.le_of_ble_eq_true rfl) (Nat.zero_le _) (Nat.zero_le _) (Call.mono h (fun r3 M4 h => ?_))
    obtain ⟨rfl, h⟩ := h
    refine r_aload_n (pc := 258) (i := 0) dX12_ring_258 rfl rfl ?_
    refine r_iconst (pc := 259) (v := 2) dX12_ring_259 (by decide) ?_
    obtain ⟨k5, h⟩ := h
    refine r_callV (pc := 260) (ci := 12) (as := [_]) (st := []) okX12_newRow lkX12_269 inX12_newRow seX12_newRow ⟨_, rfl, rfl⟩ dX12_ring_260 rfl k5 (Nat.le_of_ble_eq_true rfl) (Nat.zero_le _) (Nat.zero_le _) (Call.mono h (fun r6 M7 h => ?_))
    obtain ⟨v8, rfl, h⟩ := h
    exact r_iret (pc := 263) dX12_ring_263 rfl h
  · replace h := h.2 c2
    refine r_aload_n (pc := 163) (i := 0) dX12_ring_163 rfl rfl ?_
    obtain ⟨b9, hb9, h⟩ := h
    refine r_getr (pc := 164) flX12_76 dX12_ring_164 rfl k1 hb9 ?_
    refine r_iload (pc := 167) (i := 5) dX12_ring_167 rfl ?_
    refine r_aload_n (pc := 169) (i := 0) dX12_ring_169 rfl rfl ?_
    obtain ⟨b10, hb10, h⟩ := h
    refine r_getr (pc := 170) flX12_66 dX12_ring_170 rfl k1 hb10 ?_
    refine r_bipush (pc := 173) (v := 40) dX12_ring_173 (by decide) ?_
    refine r_iload_n (pc := 175) (i := 1) dX12_ring_175 rfl rfl ?_
    refine r_imul (pc := 176) dX12_ring_176 ?_
    refine r_iload (pc := 177) (i := 5) dX12_ring_177 rfl ?_
    refine r_iadd (pc := 179) dX12_ring_179 ?_
    obtain ⟨k11, h⟩ := h
    obtain ⟨i12, h⟩ := h
    refine r_iald (pc := 180) dX12_ring_180 k11 i12 ?_
    obtain ⟨k13, h⟩ := h
    obtain ⟨i14, h⟩ := h
    refine r_iast (pc := 181) dX12_ring_181 k13 i14 ?_
    replace h := h _ rfl
    refine r_iconst (pc := 182) (v := 0) dX12_ring_182 (by decide) ?_
    refine r_istore (pc := 183) (i := 6) dX12_ring_183 rfl (Nat.le_of_ble_eq_true rfl) ?_
    exact h
theorem vX12_ring_185 {G : GG} {d rc rs : Nat} (p0 : Nat) (x1 : Int32) (x2 : Int32) (x3 : Int32) (x4 : Int32) (x5 : Int32) (x6 : Int32) (z7 : Option Value) (hz7 : c1 z7 = true) {M : Mem} {Q : Option Value → Mem → Prop} (h : (x_h M p0).1 = 28 ∧ ((x_i M p0 0) ≤ x6 → LX12_ring_154 G d rc rs p0 x1 x2 x3 x4 (x5 + 1) (some (.int x6)) z7 M Q) ∧ (¬ (x_i M p0 0) ≤ x6 → ∃ b3, x_r M p0 27 = some b3 ∧ ((x_i M p0 25) ≤ (((x_i M p0 0) * x5) + x6) → ¬ x4 = 0 ∧ (x_h M b3).1 = 1 ∧ vp_in ((27 * x5) + x6) (x_h M b3).2 ∧ (∀ M8, M8 = x_si M b3 ((27 * x5) + x6).toNatClampNeg (x3 + (((((x_i M p0 0) * x5) + x6) - x3) - ((((x_i M p0 0) * x5) + x6) - x3) / x4 * x4)) → LX12_ring_185 G d rc rs p0 x1 x2 x3 x4 x5 (x6 + 1) (some (.int (((x_i M p0 0) * x5) + x6))) M8 Q)) ∧ (¬ (x_i M p0 25) ≤ (((x_i M p0 0) * x5) + x6) → (x_h M b3).1 = 1 ∧ vp_in ((27 * x5) + x6) (x_h M b3).2 ∧ (∀ M11, M11 = x_si M b3 ((27 * x5) + x6).toNatClampNeg (((x_i M p0 0) * x5) + x6) → LX12_ring_185 G d rc rs p0 x1 x2 x3 x4 x5 (x6 + 1) (some (.int (((x_i M p0 0) * x5) + x6))) M11 Q)))) : LX12_ring_185 G d rc rs p0 x1 x2 x3 x4 x5 x6 z7 M Q := by
  show Wk G (d + 1) rc rs mX12_ring 185 _ _ M Q
  refine r_iload (pc := 185) (i := 6) dX12_ring_185 rfl ?_
  refine r_aload_n (pc := 187) (i := 0) dX12_ring_187 rfl rfl ?_
  obtain ⟨k1, h⟩ := h
  refine r_geti (pc := 188) flX12_7 dX12_ring_188 (Or.inl rfl) k1 ?_
  refine r_icmp_ge (pc := 191) (tgt := 248) dX12_ring_191 (by decide) (fun c2 => ?_) (fun c2 => ?_)
  · replace h := h.1 c2
    refine r_iinc (pc := 248) (i := 5) (v := _ + 1) dX12_ring_248 rfl rfl rfl ?_
    refine r_goto (pc := 251) (tgt := 154) dX12_ring_251 (by decide) ?_
    exact h
  · replace h := h.2 c2
    refine r_aload_n (pc := 194) (i := 0) dX12_ring_194 rfl rfl ?_
    refine r_geti (pc := 195) flX12_7 dX12_ring_195 (Or.inl rfl) k1 ?_
    refine r_iload (pc := 198) (i := 5) dX12_ring_198 rfl ?_
    refine r_imul (pc := 200) dX12_ring_200 ?_
    refine r_iload (pc := 201) (i := 6) dX12_ring_201 rfl ?_
    refine r_iadd (pc := 203) dX12_ring_203 ?_
    refine r_istore (pc := 204) (i := 7) dX12_ring_204 rfl (Nat.le_of_ble_eq_true rfl) ?_
    refine r_aload_n (pc := 206) (i := 0) dX12_ring_206 rfl rfl ?_
    obtain ⟨b3, hb3, h⟩ := h
    refine r_getr (pc := 207) flX12_73 dX12_ring_207 rfl k1 hb3 ?_
    refine r_bipush (pc := 210) (v := 27) dX12_ring_210 (by decide) ?_
    refine r_iload (pc := 212) (i := 5) dX12_ring_212 rfl ?_
    refine r_imul (pc := 214) dX12_ring_214 ?_
    refine r_iload (pc := 215) (i := 6) dX12_ring_215 rfl ?_
    refine r_iadd (pc := 217) dX12_ring_217 ?_
    refine r_iload (pc := 218) (i := 7) dX12_ring_218 rfl ?_
    refine r_aload_n (pc := 220) (i := 0) dX12_ring_220 rfl rfl ?_
    refine r_geti (pc := 221) flX12_234 dX12_ring_221 (Or.inl rfl) k1 ?_
    refine r_icmp_ge (pc := 224) (tgt := 232) dX12_ring_224 (by decide) (fun c4 => ?_) (fun c4 => ?_)
    · replace h := h.1 c4
      refine r_iload_n (pc := 232) (i := 3) dX12_ring_232 rfl rfl ?_
      refine r_iload (pc := 233) (i := 7) dX12_ring_233 rfl ?_
      refine r_iload_n (pc := 235) (i := 3) dX12_ring_235 rfl rfl ?_
      refine r_isub (pc := 236) dX12_ring_236 ?_
      refine r_iload (pc := 237) (i := 4) dX12_ring_237 rfl ?_
      obtain ⟨n5, h⟩ := h
      refine r_irem (pc := 239) dX12_ring_239 n5 ?_
      refine r_iadd (pc := 240) dX12_ring_240 ?_
      obtain ⟨k6, h⟩ := h
      obtain ⟨i7, h⟩ := h
      refine r_iast (pc := 241) dX12_ring_241 k6 i7 ?_
      replace h := h _ rfl
      refine r_iinc (pc := 242) (i := 6) (v := _ + 1) dX12_ring_242 rfl rfl rfl ?_
      refine r_goto (pc := 245) (tgt := 185) dX12_ring_245 (by decide) ?_
      exact h
    · replace h := h.2 c4
      refine r_iload (pc := 227) (i := 7) dX12_ring_227 rfl ?_
      refine r_goto (pc := 229) (tgt := 241) dX12_ring_229 (by decide) ?_
      obtain ⟨k9, h⟩ := h
      obtain ⟨i10, h⟩ := h
      refine r_iast (pc := 241) dX12_ring_241 k9 i10 ?_
      replace h := h _ rfl
      refine r_iinc (pc := 242) (i := 6) (v := _ + 1) dX12_ring_242 rfl rfl rfl ?_
      refine r_goto (pc := 245) (tgt := 185) dX12_ring_245 (by decide) ?_
      exact h
theorem eX12_paired {G : GG} {d rc rs : Nat} (o : Nat) (a1 : Int32) (a2 : Int32)  {M : Mem} {Q : Option Value → Mem → Prop} (h : (x_h M o).1 = 28 ∧ (∃ b2, x_r M o 35 = some b2 ∧ (x_h M b2).1 = 1 ∧ vp_in ((60 * a1) + a2) (x_h M b2).2 ∧ (¬ (x_i M b2 ((60 * a1) + a2).toNatClampNeg) = (-1) → Q (some (.int (x_i M b2 ((60 * a1) + a2).toNatClampNeg))) M) ∧ ((x_i M b2 ((60 * a1) + a2).toNatClampNeg) = (-1) → ∀ M6, M6 = x_si M b2 ((60 * a1) + a2).toNatClampNeg (x_i M o 25) → ∃ b7, x_r M6 o 36 = some b7 ∧ (x_h M b7).1 = 1 ∧ vp_in (x_i M6 o 25) (x_h M b7).2 ∧ (∀ M10, M10 = x_si M6 b7 (x_i M6 o 25).toNatClampNeg a1 → ∃ b11, x_r M10 o 37 = some b11 ∧ (x_h M b11).1 = 1 ∧ vp_in (x_i M10 o 25) (x_h M b11).2 ∧ (∀ M14, M14 = x_si M10 b11 (x_i M10 o 25).toNatClampNeg a2 → ∀ M15, M15 = x_si M14 o 25 ((x_i M14 o 25) + 1) → Q (some (.int (x_i M15 b2 ((60 * a1) + a2).toNatClampNeg))) M15))))) : Call G (d + 1) rc rs mX12_paired [.ref o, .int a1, .int a2] M Q := by
  refine call_of (by decide) (Nat.le_of_ble_eq_true rfl) ?_
  show Wk G (d + 1) rc rs mX12_paired 0 [some (.ref o), some (.int a1), some (.int a2)] [] M Q
  refine r_aload_n (pc := 0) (i := 0) dX12_paired_0 rfl rfl ?_
  obtain ⟨k1, h⟩ := h
  obtain ⟨b2, hb2, h⟩ := h
  refine r_getr (pc := 1) flX12_95 dX12_paired_1 rfl k1 hb2 ?_
  refine r_bipush (pc := 4) (v := 60) dX12_paired_4 (by decide) ?_
  refine r_iload_n (pc := 6) (i := 1) dX12_paired_6 rfl rfl ?_
  refine r_imul (pc := 7) dX12_paired_7 ?_
  refine r_iload_n (pc := 8) (i := 2) dX12_paired_8 rfl rfl ?_
  refine r_iadd (pc := 9) dX12_paired_9 ?_
  obtain ⟨k3, h⟩ := h
  obtain ⟨i4, h⟩ := h
  refine r_iald (pc := 10) dX12_paired_10 k3 i4 ?_
  refine r_iconst (pc := 11) (v := (-1)) dX12_paired_11 (by decide) ?_
  refine r_icmp_ne (pc := 12) (tgt := 60) dX12_paired_12 (by decide) (fun c5 => ?_) (fun c5 => ?_)
  · replace h := h.1 c5
    refine r_aload_n (pc := 60) (i := 0) dX12_paired_60 rfl rfl ?_
    refine r_getr (pc := 61) flX12_95 dX12_paired_61 rfl k1 hb2 ?_
    refine r_bipush (pc := 64) (v := 60) dX12_paired_64 (by decide) ?_
    refine r_iload_n (pc := 66) (i := 1) dX12_paired_66 rfl rfl ?_
    refine r_imul (pc := 67) dX12_paired_67 ?_
    refine r_iload_n (pc := 68) (i := 2) dX12_paired_68 rfl rfl ?_
    refine r_iadd (pc := 69) dX12_paired_69 ?_
    refine r_iald (pc := 70) dX12_paired_70 k3 i4 ?_
    exact r_iret (pc := 71) dX12_paired_71 rfl h
  · replace h := h.2 c5
    refine r_aload_n (pc := 15) (i := 0) dX12_paired_15 rfl rfl ?_
    refine r_getr (pc := 16) flX12_95 dX12_paired_16 rfl k1 hb2 ?_
    refine r_bipush (pc := 19) (v := 60) dX12_paired_19 (by decide) ?_
    refine r_iload_n (pc := 21) (i := 1) dX12_paired_21 rfl rfl ?_
    refine r_imul (pc := 22) dX12_paired_22 ?_
    refine r_iload_n (pc := 23) (i := 2) dX12_paired_23 rfl rfl ?_
    refine r_iadd (pc := 24) dX12_paired_24 ?_
    refine r_aload_n (pc := 25) (i := 0) dX12_paired_25 rfl rfl ?_
    refine r_geti (pc := 26) flX12_234 dX12_paired_26 (Or.inl rfl) k1 ?_
    refine r_iast (pc := 29) dX12_paired_29 k3 i4 ?_
    replace h := h _ rfl
    refine r_aload_n (pc := 30) (i := 0) dX12_paired_30 rfl rfl ?_
    obtain ⟨b7, hb7, h⟩ := h
    refine r_getr (pc := 31) flX12_98 dX12_paired_31 rfl k1 hb7 ?_
    refine r_aload_n (pc := 34) (i := 0) dX12_paired_34 rfl rfl ?_
    refine r_geti (pc := 35) flX12_234 dX12_paired_35 (Or.inl rfl) k1 ?_
    refine r_iload_n (pc := 38) (i := 1) dX12_paired_38 rfl rfl ?_
    obtain ⟨k8, h⟩ := h
    obtain ⟨i9, h⟩ := h
    refine r_iast (pc := 39) dX12_paired_39 k8 i9 ?_
    replace h := h _ rfl
    refine r_aload_n (pc := 40) (i := 0) dX12_paired_40 rfl rfl ?_
    obtain ⟨b11, hb11, h⟩ := h
    refine r_getr (pc := 41) flX12_101 dX12_paired_41 rfl k1 hb11 ?_
    refine r_aload_n (pc := 44) (i := 0) dX12_paired_44 rfl rfl ?_
    refine r_geti (pc := 45) flX12_234 dX12_paired_45 (Or.inl rfl) k1 ?_
    refine r_iload_n (pc := 48) (i := 2) dX12_paired_48 rfl rfl ?_
    obtain ⟨k12, h⟩ := h
    obtain ⟨i13, h⟩ := h
    refine r_iast (pc := 49) dX12_paired_49 k12 i13 ?_
    replace h := h _ rfl
    refine r_aload_n (pc := 50) (i := 0) dX12_paired_50 rfl rfl ?_
    refine r_dup (pc := 51) dX12_paired_51 rfl ?_
    refine r_geti (pc := 52) flX12_234 dX12_paired_52 (Or.inl rfl) k1 ?_
    refine r_iconst (pc := 55) (v := 1) dX12_paired_55 (by decide) ?_
    refine r_iadd (pc := 56) dX12_paired_56 ?_
    refine r_puti (pc := 57) flX12_234 dX12_paired_57 (Or.inl rfl) (fun q hq => by cases hq; rfl) k1 ?_
    replace h := h _ rfl
    refine r_aload_n (pc := 60) (i := 0) dX12_paired_60 rfl rfl ?_
    refine r_getr (pc := 61) flX12_95 dX12_paired_61 rfl k1 hb2 ?_
    refine r_bipush (pc := 64) (v := 60) dX12_paired_64 (by decide) ?_
    refine r_iload_n (pc := 66) (i := 1) dX12_paired_66 rfl rfl ?_
    refine r_imul (pc := 67) dX12_paired_67 ?_
    refine r_iload_n (pc := 68) (i := 2) dX12_paired_68 rfl rfl ?_
    refine r_iadd (pc := 69) dX12_paired_69 ?_
    refine r_iald (pc := 70) dX12_paired_70 k3 i4 ?_
    exact r_iret (pc := 71) dX12_paired_71 rfl h
abbrev LX12_noPairs_7 (G : GG) (d rc rs : Nat) (p0 : Nat) (x1 : Int32) (M : Mem) (Q : Option Value → Mem → Prop) : Prop := Wk G (d + 1) rc rs mX12_noPairs 7 [some (.ref p0), some (.int x1)] [] M Q
theorem eX12_noPairs {G : GG} {d rc rs : Nat} (o : Nat)  {M : Mem} {Q : Option Value → Mem → Prop} (h : (x_h M o).1 = 28 ∧ (∀ M2, M2 = x_si M o 25 0 → LX12_noPairs_7 G d rc rs o 0 M2 Q)) : Call G (d + 1) rc rs mX12_noPairs [.ref o] M Q := by
  refine call_of (by decide) (Nat.le_of_ble_eq_true rfl) ?_
  show Wk G (d + 1) rc rs mX12_noPairs 0 [some (.ref o), none] [] M Q
  refine r_aload_n (pc := 0) (i := 0) dX12_noPairs_0 rfl rfl ?_
  refine r_iconst (pc := 1) (v := 0) dX12_noPairs_1 (by decide) ?_
  obtain ⟨k1, h⟩ := h
  refine r_puti (pc := 2) flX12_234 dX12_noPairs_2 (Or.inl rfl) (fun q hq => by cases hq; rfl) k1 ?_
  replace h := h _ rfl
  refine r_iconst (pc := 5) (v := 0) dX12_noPairs_5 (by decide) ?_
  refine r_istore_n (pc := 6) (i := 1) dX12_noPairs_6 rfl rfl (Nat.le_of_ble_eq_true rfl) ?_
  exact h
theorem vX12_noPairs_7 {G : GG} {d rc rs : Nat} (p0 : Nat) (x1 : Int32)  {M : Mem} {Q : Option Value → Mem → Prop} (h : (3600 ≤ x1 → (x_h M p0).1 = 28 ∧ Call G d 0 0 mX12_paired [.ref p0, .int 0, .int 0] M (fun r3 M4 => ∃ v5 : Int32, r3 = some (.int v5) ∧ Q none M4)) ∧ (¬ 3600 ≤ x1 → (x_h M p0).1 = 28 ∧ (∃ b7, x_r M p0 35 = some b7 ∧ (x_h M b7).1 = 1 ∧ vp_in x1 (x_h M b7).2 ∧ (∀ M10, M10 = x_si M b7 x1.toNatClampNeg (-1) → LX12_noPairs_7 G d rc rs p0 (x1 + 1) M10 Q)))) : LX12_noPairs_7 G d rc rs p0 x1 M Q := by
  show Wk G (d + 1) rc rs mX12_noPairs 7 _ _ M Q
  refine r_iload_n (pc := 7) (i := 1) dX12_noPairs_7 rfl rfl ?_
  refine r_sipush (pc := 8) (v := 3600) dX12_noPairs_8 (by decide) ?_
  refine r_icmp_ge (pc := 11) (tgt := 27) dX12_noPairs_11 (by decide) (fun c1 => ?_) (fun c1 => ?_)
  · replace h := h.1 c1
    refine r_aload_n (pc := 27) (i := 0) dX12_noPairs_27 rfl rfl ?_
    refine r_iconst (pc := 28) (v := 0) dX12_noPairs_28 (by decide) ?_
    refine r_iconst (pc := 29) (v := 0) dX12_noPairs_29 (by decide) ?_
    obtain ⟨k2, h⟩ := h
    refine r_callV (pc := 30) (ci := 12) (as := [_, _]) (st := []) okX12_paired lkX12_272 inX12_paired seX12_paired ⟨_, rfl, rfl⟩ dX12_noPairs_30 rfl k2 (Nat.le_of_ble_eq_true rfl) (Nat.zero_le _) (Nat.zero_le _) (Call.mono h (fun r3 M4 h => ?_))
    obtain ⟨v5, rfl, h⟩ := h
    refine r_pop (pc := 33) dX12_noPairs_33 rfl ?_
    exact r_vret (pc := 34) dX12_noPairs_34 rfl h
  · replace h := h.2 c1
    refine r_aload_n (pc := 14) (i := 0) dX12_noPairs_14 rfl rfl ?_
    obtain ⟨k6, h⟩ := h
    obtain ⟨b7, hb7, h⟩ := h
    refine r_getr (pc := 15) flX12_95 dX12_noPairs_15 rfl k6 hb7 ?_
    refine r_iload_n (pc := 18) (i := 1) dX12_noPairs_18 rfl rfl ?_
    refine r_iconst (pc := 19) (v := (-1)) dX12_noPairs_19 (by decide) ?_
    obtain ⟨k8, h⟩ := h
    obtain ⟨i9, h⟩ := h
    refine r_iast (pc := 20) dX12_noPairs_20 k8 i9 ?_
    replace h := h _ rfl
    refine r_iinc (pc := 21) (i := 1) (v := _ + 1) dX12_noPairs_21 rfl rfl rfl ?_
    refine r_goto (pc := 24) (tgt := 7) dX12_noPairs_24 (by decide) ?_
    exact h
abbrev LX12_pair_61 (G : GG) (d rc rs : Nat) (p0 : Nat) (x1 : Int32) (x2 : Int32) (x3 : Int32) (x4 : Int32) (z5 : Option Value) (z6 : Option Value) (z7 : Option Value) (M : Mem) (Q : Option Value → Mem → Prop) : Prop := Wk G (d + 1) rc rs mX12_pair 61 [some (.ref p0), some (.int x1), some (.int x2), some (.int x3), some (.int x4), z5, z6, z7] [] M Q
abbrev LX12_pair_167 (G : GG) (d rc rs : Nat) (p0 : Nat) (x1 : Int32) (x2 : Int32) (x3 : Int32) (x4 : Int32) (x5 : Int32) (x6 : Int32) (x7 : Int32) (M : Mem) (Q : Option Value → Mem → Prop) : Prop := Wk G (d + 1) rc rs mX12_pair 167 [some (.ref p0), some (.int x1), some (.int x2), some (.int x3), some (.int x4), some (.int x5), some (.int x6), some (.int x7)] [] M Q
theorem eX12_pair {G : GG} {d rc rs : Nat} (o : Nat) (a1 : Int32) (a2 : Int32) (a3 : Int32)  {M : Mem} {Q : Option Value → Mem → Prop} (h : (x_h M o).1 = 28 ∧ Call G d 0 0 mX12_isRow [.ref o, .int a1] M (fun r2 M3 => ∃ v4 : Int32, r2 = some (.int v4) ∧ (v4 = 0 → (x_h M3 o).1 = 28 ∧ Call G d 0 0 mX12_refused [.ref o, .int 1] M3 (fun r7 M8 => ∃ v9 : Int32, r7 = some (.int v9) ∧ Q (some (.int v9)) M8)) ∧ (¬ v4 = 0 → (x_h M3 o).1 = 28 ∧ Call G d 0 0 mX12_isRow [.ref o, .int a2] M3 (fun r11 M12 => ∃ v13 : Int32, r11 = some (.int v13) ∧ (v13 = 0 → (x_h M12 o).1 = 28 ∧ Call G d 0 0 mX12_refused [.ref o, .int 1] M12 (fun r16 M17 => ∃ v18 : Int32, r16 = some (.int v18) ∧ Q (some (.int v18)) M17)) ∧ (¬ v13 = 0 → Call G d 0 0 mX12_in [.int a3, .int 0, .int 2] M12 (fun r19 M20 => ∃ v21 : Int32, r19 = some (.int v21) ∧ (¬ v21 = 0 → (x_h M20 o).1 = 28 ∧ (¬ (x_i M20 o 1) = 10 → Call G d 0 0 mX12_noPairs [.ref o] M20 (fun r25 M26 => r25 = none ∧ (x_h M26 o).1 = 28 ∧ (∀ M28, M28 = x_si M26 o 26 (x_i M26 o 0) → LX12_pair_61 G d rc rs o a1 a2 a3 0 none none none M28 Q))) ∧ ((x_i M20 o 1) = 10 → Call G d 0 0 mX12_refused [.ref o, .int 2] M20 (fun r29 M30 => ∃ v31 : Int32, r29 = some (.int v31) ∧ Q (some (.int v31)) M30))) ∧ (v21 = 0 → (x_h M20 o).1 = 28 ∧ Call G d 0 0 mX12_refused [.ref o, .int 1] M20 (fun r33 M34 => ∃ v35 : Int32, r33 = some (.int v35) ∧ Q (some (.int v35)) M34)))))))) : Call G (d + 1) rc rs mX12_pair [.ref o, .int a1, .int a2, .int a3] M Q := by
  refine call_of (by decide) (Nat.le_of_ble_eq_true rfl) ?_
  show Wk G (d + 1) rc rs mX12_pair 0 [some (.ref o), some (.int a1), some (.int a2), some (.int a3), none, none, none, none] [] M Q
  refine r_aload_n (pc := 0) (i := 0) dX12_pair_0 rfl rfl ?_
  refine r_iload_n (pc := 1) (i := 1) dX12_pair_1 rfl rfl ?_
  obtain ⟨k1, h⟩ := h
  refine r_callV (pc := 2) (ci := 12) (as := [_]) (st := []) okX12_isRow lkX12_275 inX12_isRow seX12_isRow ⟨_, rfl, rfl⟩ dX12_pair_2 rfl k1 (Nat.le_of_ble_eq_true rfl) (Nat.zero_le _) (Nat.zero_le _) (Call.mono h (fun r2 M3 h => ?_))
  obtain ⟨v4, rfl, h⟩ := h
  refine r_if_eq (pc := 5) (tgt := 25) dX12_pair_5 (by decide) (fun c5 => ?_) (fun c5 => ?_)
  · replace h := h.1 c5
    refine r_aload_n (pc := 25) (i := 0) dX12_pair_25 rfl rfl ?_
    refine r_iconst (pc := 26) (v := 1) dX12_pair_26 (by decide) ?_
    obtain ⟨k6, h⟩ := h
    refine r_callV (pc := 27) (ci := 12) (as := [_]) (st := []) okX12_refused lkX12_253 inX12_refused seX12_refused ⟨_, rfl, rfl⟩ dX12_pair_27 rfl k6 (Nat.le_of_ble_eq_true rfl) (Nat.zero_le _) (Nat.zero_le _) (Call.mono h (fun r7 M8 h => ?_))
    obtain ⟨v9, rfl, h⟩ := h
    exact r_iret (pc := 30) dX12_pair_30 rfl h
  · replace h := h.2 c5
    refine r_aload_n (pc := 8) (i := 0) dX12_pair_8 rfl rfl ?_
    refine r_iload_n (pc := 9) (i := 2) dX12_pair_9 rfl rfl ?_
    obtain ⟨k10, h⟩ := h
    refine r_callV (pc := 10) (ci := 12) (as := [_]) (st := []) okX12_isRow lkX12_275 inX12_isRow seX12_isRow ⟨_, rfl, rfl⟩ dX12_pair_10 rfl k10 (Nat.le_of_ble_eq_true rfl) (Nat.zero_le _) (Nat.zero_le _) (Call.mono h (fun r11 M12 h => ?_))
    obtain ⟨v13, rfl, h⟩ := h
    refine r_if_eq (pc := 13) (tgt := 25) dX12_pair_13 (by decide) (fun c14 => ?_) (fun c14 => ?_)
    · replace h := h.1 c14
      refine r_aload_n (pc := 25) (i := 0) dX12_pair_25 rfl rfl ?_
      refine r_iconst (pc := 26) (v := 1) dX12_pair_26 (by decide) ?_
      obtain ⟨k15, h⟩ := h
      refine r_callV (pc := 27) (ci := 12) (as := [_]) (st := []) okX12_refused lkX12_253 inX12_refused seX12_refused ⟨_, rfl, rfl⟩ dX12_pair_27 rfl k15 (Nat.le_of_ble_eq_true rfl) (Nat.zero_le _) (Nat.zero_le _) (Call.mono h (fun r16 M17 h => ?_))
      obtain ⟨v18, rfl, h⟩ := h
      exact r_iret (pc := 30) dX12_pair_30 rfl h
    · replace h := h.2 c14
      refine r_iload_n (pc := 16) (i := 3) dX12_pair_16 rfl rfl ?_
      refine r_iconst (pc := 17) (v := 0) dX12_pair_17 (by decide) ?_
      refine r_iconst (pc := 18) (v := 2) dX12_pair_18 (by decide) ?_
      refine r_callS (pc := 19) (as := [_, _, _]) (st := []) okX12_in lkX12_218 stX12_in dX12_pair_19 rfl (Nat.le_of_ble_eq_true rfl) (Nat.zero_le _) (Nat.zero_le _) (Call.mono h (fun r19 M20 h => ?_))
      obtain ⟨v21, rfl, h⟩ := h
      refine r_if_ne (pc := 22) (tgt := 31) dX12_pair_22 (by decide) (fun c22 => ?_) (fun c22 => ?_)
      · replace h := h.1 c22
        refine r_aload_n (pc := 31) (i := 0) dX12_pair_31 rfl rfl ?_
        obtain ⟨k23, h⟩ := h
        refine r_geti (pc := 32) flX12_215 dX12_pair_32 (Or.inl rfl) k23 ?_
        refine r_bipush (pc := 35) (v := 10) dX12_pair_35 (by decide) ?_
        refine r_icmp_ne (pc := 37) (tgt := 46) dX12_pair_37 (by decide) (fun c24 => ?_) (fun c24 => ?_)
        · replace h := h.1 c24
          refine r_aload_n (pc := 46) (i := 0) dX12_pair_46 rfl rfl ?_
          refine r_callV (pc := 47) (ci := 12) (as := []) (st := []) okX12_noPairs lkX12_279 inX12_noPairs seX12_noPairs ⟨_, rfl, rfl⟩ dX12_pair_47 rfl k23 (Nat.le_of_ble_eq_true rfl) (Nat.zero_le _) (Nat.zero_le _) (Call.mono h (fun r25 M26 h => ?_))
          obtain ⟨rfl, h⟩ := h
          refine r_aload_n (pc := 50) (i := 0) dX12_pair_50 rfl rfl ?_
          refine r_aload_n (pc := 51) (i := 0) dX12_pair_51 rfl rfl ?_
          obtain ⟨k27, h⟩ := h
          refine r_geti (pc := 52) flX12_7 dX12_pair_52 (Or.inl rfl) k27 ?_
          refine r_puti (pc := 55) flX12_226 dX12_pair_55 (Or.inl rfl) (fun q hq => by cases hq; rfl) k27 ?_
          replace h := h _ rfl
          refine r_iconst (pc := 58) (v := 0) dX12_pair_58 (by decide) ?_
          refine r_istore (pc := 59) (i := 4) dX12_pair_59 rfl (Nat.le_of_ble_eq_true rfl) ?_
          exact h
        · replace h := h.2 c24
          refine r_aload_n (pc := 40) (i := 0) dX12_pair_40 rfl rfl ?_
          refine r_iconst (pc := 41) (v := 2) dX12_pair_41 (by decide) ?_
          refine r_callV (pc := 42) (ci := 12) (as := [_]) (st := []) okX12_refused lkX12_253 inX12_refused seX12_refused ⟨_, rfl, rfl⟩ dX12_pair_42 rfl k23 (Nat.le_of_ble_eq_true rfl) (Nat.zero_le _) (Nat.zero_le _) (Call.mono h (fun r29 M30 h => ?_))
          obtain ⟨v31, rfl, h⟩ := h
          exact r_iret (pc := 45) dX12_pair_45 rfl h
      · replace h := h.2 c22
        refine r_aload_n (pc := 25) (i := 0) dX12_pair_25 rfl rfl ?_
        refine r_iconst (pc := 26) (v := 1) dX12_pair_26 (by decide) ?_
        obtain ⟨k32, h⟩ := h
        refine r_callV (pc := 27) (ci := 12) (as := [_]) (st := []) okX12_refused lkX12_253 inX12_refused seX12_refused ⟨_, rfl, rfl⟩ dX12_pair_27 rfl k32 (Nat.le_of_ble_eq_true rfl) (Nat.zero_le _) (Nat.zero_le _) (Call.mono h (fun r33 M34 h => ?_))
        obtain ⟨v35, rfl, h⟩ := h
        exact r_iret (pc := 30) dX12_pair_30 rfl h
theorem vX12_pair_61 {G : GG} {d rc rs : Nat} (p0 : Nat) (x1 : Int32) (x2 : Int32) (x3 : Int32) (x4 : Int32) (z5 : Option Value) (z6 : Option Value) (z7 : Option Value) (hz5 : c1 z5 = true) (hz6 : c1 z6 = true) (hz7 : c1 z7 = true) {M : Mem} {Q : Option Value → Mem → Prop} (h : (x_h M p0).1 = 28 ∧ ((x_i M p0 25) ≤ x4 → Call G d 0 0 mX12_least [.ref p0] M (fun r3 M4 => r3 = none ∧ (x_h M4 p0).1 = 28 ∧ ((x_i M4 p0 29) ≤ 60 → Call G d 0 0 mX12_newRow [.ref p0, .int 3] M4 (fun r7 M8 => ∃ v9 : Int32, r7 = some (.int v9) ∧ Q (some (.int v9)) M8)) ∧ (¬ (x_i M4 p0 29) ≤ 60 → Call G d 0 0 mX12_refused [.ref p0, .int 3] M4 (fun r10 M11 => ∃ v12 : Int32, r10 = some (.int v12) ∧ Q (some (.int v12)) M11)))) ∧ (¬ (x_i M p0 25) ≤ x4 → ∃ b13, x_r M p0 5 = some b13 ∧ ∃ b14, x_r M p0 36 = some b14 ∧ (x_h M b14).1 = 1 ∧ vp_in x4 (x_h M b14).2 ∧ (x_h M b13).1 = 1 ∧ vp_in ((60 * x1) + (x_i M b14 x4.toNatClampNeg)) (x_h M b13).2 ∧ (∃ b19, x_r M p0 37 = some b19 ∧ (x_h M b19).1 = 1 ∧ vp_in x4 (x_h M b19).2 ∧ vp_in ((60 * x2) + (x_i M b19 x4.toNatClampNeg)) (x_h M b13).2 ∧ (∃ b23, x_r M p0 28 = some b23 ∧ (¬ x3 = 0 → (¬ x3 = 1 → ((x_i M b13 ((60 * x1) + (x_i M b14 x4.toNatClampNeg)).toNatClampNeg) ≤ (x_i M b13 ((60 * x2) + (x_i M b19 x4.toNatClampNeg)).toNatClampNeg) → (x_h M b23).1 = 1 ∧ vp_in x4 (x_h M b23).2 ∧ (∀ M29, M29 = x_si M b23 x4.toNatClampNeg (x_i M b13 ((60 * x2) + (x_i M b19 x4.toNatClampNeg)).toNatClampNeg) → LX12_pair_167 G d rc rs p0 x1 x2 x3 x4 (x_i M b13 ((60 * x1) + (x_i M b14 x4.toNatClampNeg)).toNatClampNeg) (x_i M b13 ((60 * x2) + (x_i M b19 x4.toNatClampNeg)).toNatClampNeg) 0 M29 Q)) ∧ (¬ (x_i M b13 ((60 * x1) + (x_i M b14 x4.toNatClampNeg)).toNatClampNeg) ≤ (x_i M b13 ((60 * x2) + (x_i M b19 x4.toNatClampNeg)).toNatClampNeg) → (x_h M b23).1 = 1 ∧ vp_in x4 (x_h M b23).2 ∧ (∀ M32, M32 = x_si M b23 x4.toNatClampNeg (x_i M b13 ((60 * x1) + (x_i M b14 x4.toNatClampNeg)).toNatClampNeg) → LX12_pair_167 G d rc rs p0 x1 x2 x3 x4 (x_i M b13 ((60 * x1) + (x_i M b14 x4.toNatClampNeg)).toNatClampNeg) (x_i M b13 ((60 * x2) + (x_i M b19 x4.toNatClampNeg)).toNatClampNeg) 0 M32 Q))) ∧ (x3 = 1 → (x_h M b23).1 = 1 ∧ vp_in x4 (x_h M b23).2 ∧ (∀ M35, M35 = x_si M b23 x4.toNatClampNeg (((x_i M b13 ((60 * x1) + (x_i M b14 x4.toNatClampNeg)).toNatClampNeg) + (x_i M b13 ((60 * x2) + (x_i M b19 x4.toNatClampNeg)).toNatClampNeg)) - ((x_i M b13 ((60 * x1) + (x_i M b14 x4.toNatClampNeg)).toNatClampNeg) + (x_i M b13 ((60 * x2) + (x_i M b19 x4.toNatClampNeg)).toNatClampNeg)) / 8 * 8) → LX12_pair_167 G d rc rs p0 x1 x2 x3 x4 (x_i M b13 ((60 * x1) + (x_i M b14 x4.toNatClampNeg)).toNatClampNeg) (x_i M b13 ((60 * x2) + (x_i M b19 x4.toNatClampNeg)).toNatClampNeg) 0 M35 Q))) ∧ (x3 = 0 → (¬ (x_i M b13 ((60 * x1) + (x_i M b14 x4.toNatClampNeg)).toNatClampNeg) = (x_i M b13 ((60 * x2) + (x_i M b19 x4.toNatClampNeg)).toNatClampNeg) → (x_h M b23).1 = 1 ∧ vp_in x4 (x_h M b23).2 ∧ (∀ M39, M39 = x_si M b23 x4.toNatClampNeg 0 → LX12_pair_167 G d rc rs p0 x1 x2 x3 x4 (x_i M b13 ((60 * x1) + (x_i M b14 x4.toNatClampNeg)).toNatClampNeg) (x_i M b13 ((60 * x2) + (x_i M b19 x4.toNatClampNeg)).toNatClampNeg) 0 M39 Q)) ∧ ((x_i M b13 ((60 * x1) + (x_i M b14 x4.toNatClampNeg)).toNatClampNeg) = (x_i M b13 ((60 * x2) + (x_i M b19 x4.toNatClampNeg)).toNatClampNeg) → (x_h M b23).1 = 1 ∧ vp_in x4 (x_h M b23).2 ∧ (∀ M42, M42 = x_si M b23 x4.toNatClampNeg 1 → LX12_pair_167 G d rc rs p0 x1 x2 x3 x4 (x_i M b13 ((60 * x1) + (x_i M b14 x4.toNatClampNeg)).toNatClampNeg) (x_i M b13 ((60 * x2) + (x_i M b19 x4.toNatClampNeg)).toNatClampNeg) 0 M42 Q))))))) : LX12_pair_61 G d rc rs p0 x1 x2 x3 x4 z5 z6 z7 M Q := by
  show Wk G (d + 1) rc rs mX12_pair 61 _ _ M Q
  refine r_iload (pc := 61) (i := 4) dX12_pair_61 rfl ?_
  refine r_aload_n (pc := 63) (i := 0) dX12_pair_63 rfl rfl ?_
  obtain ⟨k1, h⟩ := h
  refine r_geti (pc := 64) flX12_234 dX12_pair_64 (Or.inl rfl) k1 ?_
  refine r_icmp_ge (pc := 67) (tgt := 233) dX12_pair_67 (by decide) (fun c2 => ?_) (fun c2 => ?_)
  · replace h := h.1 c2
    refine r_aload_n (pc := 233) (i := 0) dX12_pair_233 rfl rfl ?_
    refine r_callV (pc := 234) (ci := 12) (as := []) (st := []) okX12_least lkX12_266 inX12_least seX12_least ⟨_, rfl, rfl⟩ dX12_pair_234 rfl k1 (Nat.le_of_ble_eq_true rfl) (Nat.zero_le _) (Nat.zero_le _) (Call.mono h (fun r3 M4 h => ?_))
    obtain ⟨rfl, h⟩ := h
    refine r_aload_n (pc := 237) (i := 0) dX12_pair_237 rfl rfl ?_
    obtain ⟨k5, h⟩ := h
    refine r_geti (pc := 238) flX12_243 dX12_pair_238 (Or.inl rfl) k5 ?_
    refine r_bipush (pc := 241) (v := 60) dX12_pair_241 (by decide) ?_
    refine r_icmp_le (pc := 243) (tgt := 254) dX12_pair_243 (by decide) (fun c6 => ?_) (fun c6 => ?_)
    · replace h := h.1 c6
      refine r_aload_n (pc := 254) (i := 0) dX12_pair_254 rfl rfl ?_
      refine r_iconst (pc := 255) (v := 3) dX12_pair_255 (by decide) ?_
      refine r_callV (pc := 256) (ci := 12) (as := [_]) (st := []) okX12_newRow lkX12_269 inX12_newRow seX12_newRow ⟨_, rfl, rfl⟩ dX12_pair_256 rfl k5 (Nat.le_of_ble_eq_true rfl) (Nat.zero_le _) (Nat.zero_le _) (Call.mono h (fun r7 M8 h => ?_))
      obtain ⟨v9, rfl, h⟩ := h
      exact r_iret (pc := 259) dX12_pair_259 rfl h
    · replace h := h.2 c6
      refine r_aload_n (pc := 246) (i := 0) dX12_pair_246 rfl rfl ?_
      refine r_iconst (pc := 247) (v := 3) dX12_pair_247 (by decide) ?_
      refine r_callV (pc := 248) (ci := 12) (as := [_]) (st := []) okX12_refused lkX12_253 inX12_refused seX12_refused ⟨_, rfl, rfl⟩ dX12_pair_248 rfl k5 (Nat.le_of_ble_eq_true rfl) (Nat.zero_le _) (Nat.zero_le _) (Call.mono h (fun r10 M11 h => ?_))
      obtain ⟨v12, rfl, h⟩ := h
      refine r_goto (pc := 251) (tgt := 259) dX12_pair_251 (by decide) ?_
      exact r_iret (pc := 259) dX12_pair_259 rfl h
  · replace h := h.2 c2
    refine r_aload_n (pc := 70) (i := 0) dX12_pair_70 rfl rfl ?_
    obtain ⟨b13, hb13, h⟩ := h
    refine r_getr (pc := 71) flX12_23 dX12_pair_71 rfl k1 hb13 ?_
    refine r_bipush (pc := 74) (v := 60) dX12_pair_74 (by decide) ?_
    refine r_iload_n (pc := 76) (i := 1) dX12_pair_76 rfl rfl ?_
    refine r_imul (pc := 77) dX12_pair_77 ?_
    refine r_aload_n (pc := 78) (i := 0) dX12_pair_78 rfl rfl ?_
    obtain ⟨b14, hb14, h⟩ := h
    refine r_getr (pc := 79) flX12_98 dX12_pair_79 rfl k1 hb14 ?_
    refine r_iload (pc := 82) (i := 4) dX12_pair_82 rfl ?_
    obtain ⟨k15, h⟩ := h
    obtain ⟨i16, h⟩ := h
    refine r_iald (pc := 84) dX12_pair_84 k15 i16 ?_
    refine r_iadd (pc := 85) dX12_pair_85 ?_
    obtain ⟨k17, h⟩ := h
    obtain ⟨i18, h⟩ := h
    refine r_iald (pc := 86) dX12_pair_86 k17 i18 ?_
    refine r_istore (pc := 87) (i := 5) dX12_pair_87 rfl (Nat.le_of_ble_eq_true rfl) ?_
    refine r_aload_n (pc := 89) (i := 0) dX12_pair_89 rfl rfl ?_
    refine r_getr (pc := 90) flX12_23 dX12_pair_90 rfl k1 hb13 ?_
    refine r_bipush (pc := 93) (v := 60) dX12_pair_93 (by decide) ?_
    refine r_iload_n (pc := 95) (i := 2) dX12_pair_95 rfl rfl ?_
    refine r_imul (pc := 96) dX12_pair_96 ?_
    refine r_aload_n (pc := 97) (i := 0) dX12_pair_97 rfl rfl ?_
    obtain ⟨b19, hb19, h⟩ := h
    refine r_getr (pc := 98) flX12_101 dX12_pair_98 rfl k1 hb19 ?_
    refine r_iload (pc := 101) (i := 4) dX12_pair_101 rfl ?_
    obtain ⟨k20, h⟩ := h
    obtain ⟨i21, h⟩ := h
    refine r_iald (pc := 103) dX12_pair_103 k20 i21 ?_
    refine r_iadd (pc := 104) dX12_pair_104 ?_
    obtain ⟨i22, h⟩ := h
    refine r_iald (pc := 105) dX12_pair_105 k17 i22 ?_
    refine r_istore (pc := 106) (i := 6) dX12_pair_106 rfl (Nat.le_of_ble_eq_true rfl) ?_
    refine r_aload_n (pc := 108) (i := 0) dX12_pair_108 rfl rfl ?_
    obtain ⟨b23, hb23, h⟩ := h
    refine r_getr (pc := 109) flX12_76 dX12_pair_109 rfl k1 hb23 ?_
    refine r_iload (pc := 112) (i := 4) dX12_pair_112 rfl ?_
    refine r_iload_n (pc := 114) (i := 3) dX12_pair_114 rfl rfl ?_
    refine r_if_ne (pc := 115) (tgt := 133) dX12_pair_115 (by decide) (fun c24 => ?_) (fun c24 => ?_)
    · replace h := h.1 c24
      refine r_iload_n (pc := 133) (i := 3) dX12_pair_133 rfl rfl ?_
      refine r_iconst (pc := 134) (v := 1) dX12_pair_134 (by decide) ?_
      refine r_icmp_ne (pc := 135) (tgt := 149) dX12_pair_135 (by decide) (fun c25 => ?_) (fun c25 => ?_)
      · replace h := h.1 c25
        refine r_iload (pc := 149) (i := 5) dX12_pair_149 rfl ?_
        refine r_iload (pc := 151) (i := 6) dX12_pair_151 rfl ?_
        refine r_icmp_le (pc := 153) (tgt := 161) dX12_pair_153 (by decide) (fun c26 => ?_) (fun c26 => ?_)
        · replace h := h.1 c26
          refine r_iload (pc := 161) (i := 6) dX12_pair_161 rfl ?_
          obtain ⟨k27, h⟩ := h
          obtain ⟨i28, h⟩ := h
          refine r_iast (pc := 163) dX12_pair_163 k27 i28 ?_
          replace h := h _ rfl
          refine r_iconst (pc := 164) (v := 0) dX12_pair_164 (by decide) ?_
          refine r_istore (pc := 165) (i := 7) dX12_pair_165 rfl (Nat.le_of_ble_eq_true rfl) ?_
          exact h
        · replace h := h.2 c26
          refine r_iload (pc := 156) (i := 5) dX12_pair_156 rfl ?_
          refine r_goto (pc := 158) (tgt := 163) dX12_pair_158 (by decide) ?_
          obtain ⟨k30, h⟩ := h
          obtain ⟨i31, h⟩ := h
          refine r_iast (pc := 163) dX12_pair_163 k30 i31 ?_
          replace h := h _ rfl
          refine r_iconst (pc := 164) (v := 0) dX12_pair_164 (by decide) ?_
          refine r_istore (pc := 165) (i := 7) dX12_pair_165 rfl (Nat.le_of_ble_eq_true rfl) ?_
          exact h
      · replace h := h.2 c25
        refine r_iload (pc := 138) (i := 5) dX12_pair_138 rfl ?_
        refine r_iload (pc := 140) (i := 6) dX12_pair_140 rfl ?_
        refine r_iadd (pc := 142) dX12_pair_142 ?_
        refine r_bipush (pc := 143) (v := 8) dX12_pair_143 (by decide) ?_
        refine r_irem (pc := 145) dX12_pair_145 (by decide) ?_
        refine r_goto (pc := 146) (tgt := 163) dX12_pair_146 (by decide) ?_
        obtain ⟨k33, h⟩ := h
        obtain ⟨i34, h⟩ := h
        refine r_iast (pc := 163) dX12_pair_163 k33 i34 ?_
        replace h := h _ rfl
        refine r_iconst (pc := 164) (v := 0) dX12_pair_164 (by decide) ?_
        refine r_istore (pc := 165) (i := 7) dX12_pair_165 rfl (Nat.le_of_ble_eq_true rfl) ?_
        exact h
    · replace h := h.2 c24
      refine r_iload (pc := 118) (i := 5) dX12_pair_118 rfl ?_
      refine r_iload (pc := 120) (i := 6) dX12_pair_120 rfl ?_
      refine r_icmp_ne (pc := 122) (tgt := 129) dX12_pair_122 (by decide) (fun c36 => ?_) (fun c36 => ?_)
      · replace h := h.1 c36
        refine r_iconst (pc := 129) (v := 0) dX12_pair_129 (by decide) ?_
        refine r_goto (pc := 130) (tgt := 163) dX12_pair_130 (by decide) ?_
        obtain ⟨k37, h⟩ := h
        obtain ⟨i38, h⟩ := h
        refine r_iast (pc := 163) dX12_pair_163 k37 i38 ?_
        replace h := h _ rfl
        refine r_iconst (pc := 164) (v := 0) dX12_pair_164 (by decide) ?_
        refine r_istore (pc := 165) (i := 7) dX12_pair_165 rfl (Nat.le_of_ble_eq_true rfl) ?_
        exact h
      · replace h := h.2 c36
        refine r_iconst (pc := 125) (v := 1) dX12_pair_125 (by decide) ?_
        refine r_goto (pc := 126) (tgt := 163) dX12_pair_126 (by decide) ?_
        obtain ⟨k40, h⟩ := h
        obtain ⟨i41, h⟩ := h
        refine r_iast (pc := 163) dX12_pair_163 k40 i41 ?_
        replace h := h _ rfl
        refine r_iconst (pc := 164) (v := 0) dX12_pair_164 (by decide) ?_
        refine r_istore (pc := 165) (i := 7) dX12_pair_165 rfl (Nat.le_of_ble_eq_true rfl) ?_
        exact h
theorem vX12_pair_167 {G : GG} {d rc rs : Nat} (p0 : Nat) (x1 : Int32) (x2 : Int32) (x3 : Int32) (x4 : Int32) (x5 : Int32) (x6 : Int32) (x7 : Int32)  {M : Mem} {Q : Option Value → Mem → Prop} (h : (x_h M p0).1 = 28 ∧ ((x_i M p0 0) ≤ x7 → LX12_pair_61 G d rc rs p0 x1 x2 x3 (x4 + 1) (some (.int x5)) (some (.int x6)) (some (.int x7)) M Q) ∧ (¬ (x_i M p0 0) ≤ x7 → ∃ b3, x_r M p0 27 = some b3 ∧ ∃ b4, x_r M p0 36 = some b4 ∧ (x_h M b4).1 = 1 ∧ vp_in x4 (x_h M b4).2 ∧ Call G d 0 0 mX12_rowTo [.ref p0, .int x1, .int (x_i M b4 x4.toNatClampNeg), .int x7] M (fun r7 M8 => ∃ v9 : Int32, r7 = some (.int v9) ∧ (x_h M8 p0).1 = 28 ∧ (∃ b11, x_r M8 p0 37 = some b11 ∧ (x_h M8 b11).1 = 1 ∧ vp_in x4 (x_h M8 b11).2 ∧ Call G d 0 0 mX12_rowTo [.ref p0, .int x2, .int (x_i M8 b11 x4.toNatClampNeg), .int x7] M8 (fun r14 M15 => ∃ v16 : Int32, r14 = some (.int v16) ∧ (x_h M15 p0).1 = 28 ∧ Call G d 0 0 mX12_paired [.ref p0, .int v9, .int v16] M15 (fun r18 M19 => ∃ v20 : Int32, r18 = some (.int v20) ∧ (x_h M19 b3).1 = 1 ∧ vp_in ((27 * x4) + x7) (x_h M19 b3).2 ∧ (∀ M23, M23 = x_si M19 b3 ((27 * x4) + x7).toNatClampNeg v20 → LX12_pair_167 G d rc rs p0 x1 x2 x3 x4 x5 x6 (x7 + 1) M23 Q))))))) : LX12_pair_167 G d rc rs p0 x1 x2 x3 x4 x5 x6 x7 M Q := by
  show Wk G (d + 1) rc rs mX12_pair 167 _ _ M Q
  refine r_iload (pc := 167) (i := 7) dX12_pair_167 rfl ?_
  refine r_aload_n (pc := 169) (i := 0) dX12_pair_169 rfl rfl ?_
  obtain ⟨k1, h⟩ := h
  refine r_geti (pc := 170) flX12_7 dX12_pair_170 (Or.inl rfl) k1 ?_
  refine r_icmp_ge (pc := 173) (tgt := 227) dX12_pair_173 (by decide) (fun c2 => ?_) (fun c2 => ?_)
  · replace h := h.1 c2
    refine r_iinc (pc := 227) (i := 4) (v := _ + 1) dX12_pair_227 rfl rfl rfl ?_
    refine r_goto (pc := 230) (tgt := 61) dX12_pair_230 (by decide) ?_
    exact h
  · replace h := h.2 c2
    refine r_aload_n (pc := 176) (i := 0) dX12_pair_176 rfl rfl ?_
    obtain ⟨b3, hb3, h⟩ := h
    refine r_getr (pc := 177) flX12_73 dX12_pair_177 rfl k1 hb3 ?_
    refine r_bipush (pc := 180) (v := 27) dX12_pair_180 (by decide) ?_
    refine r_iload (pc := 182) (i := 4) dX12_pair_182 rfl ?_
    refine r_imul (pc := 184) dX12_pair_184 ?_
    refine r_iload (pc := 185) (i := 7) dX12_pair_185 rfl ?_
    refine r_iadd (pc := 187) dX12_pair_187 ?_
    refine r_aload_n (pc := 188) (i := 0) dX12_pair_188 rfl rfl ?_
    refine r_aload_n (pc := 189) (i := 0) dX12_pair_189 rfl rfl ?_
    refine r_iload_n (pc := 190) (i := 1) dX12_pair_190 rfl rfl ?_
    refine r_aload_n (pc := 191) (i := 0) dX12_pair_191 rfl rfl ?_
    obtain ⟨b4, hb4, h⟩ := h
    refine r_getr (pc := 192) flX12_98 dX12_pair_192 rfl k1 hb4 ?_
    refine r_iload (pc := 195) (i := 4) dX12_pair_195 rfl ?_
    obtain ⟨k5, h⟩ := h
    obtain ⟨i6, h⟩ := h
    refine r_iald (pc := 197) dX12_pair_197 k5 i6 ?_
    refine r_iload (pc := 198) (i := 7) dX12_pair_198 rfl ?_
    refine r_callV (pc := 200) (ci := 12) (as := [_, _, _]) (st := [_, _, _]) okX12_rowTo lkX12_282 inX12_rowTo seX12_rowTo ⟨_, rfl, rfl⟩ dX12_pair_200 rfl k1 (Nat.le_of_ble_eq_true rfl) (Nat.zero_le _) (Nat.zero_le _) (Call.mono h (fun r7 M8 h => ?_))
    obtain ⟨v9, rfl, h⟩ := h
    refine r_aload_n (pc := 203) (i := 0) dX12_pair_203 rfl rfl ?_
    refine r_iload_n (pc := 204) (i := 2) dX12_pair_204 rfl rfl ?_
    refine r_aload_n (pc := 205) (i := 0) dX12_pair_205 rfl rfl ?_
    obtain ⟨k10, h⟩ := h
    obtain ⟨b11, hb11, h⟩ := h
    refine r_getr (pc := 206) flX12_101 dX12_pair_206 rfl k10 hb11 ?_
    refine r_iload (pc := 209) (i := 4) dX12_pair_209 rfl ?_
    obtain ⟨k12, h⟩ := h
    obtain ⟨i13, h⟩ := h
    refine r_iald (pc := 211) dX12_pair_211 k12 i13 ?_
    refine r_iload (pc := 212) (i := 7) dX12_pair_212 rfl ?_
    refine r_callV (pc := 214) (ci := 12) (as := [_, _, _]) (st := [_, _, _, _]) okX12_rowTo lkX12_282 inX12_rowTo seX12_rowTo ⟨_, rfl, rfl⟩ dX12_pair_214 rfl k10 (Nat.le_of_ble_eq_true rfl) (Nat.zero_le _) (Nat.zero_le _) (Call.mono h (fun r14 M15 h => ?_))
    obtain ⟨v16, rfl, h⟩ := h
    obtain ⟨k17, h⟩ := h
    refine r_callV (pc := 217) (ci := 12) (as := [_, _]) (st := [_, _]) okX12_paired lkX12_272 inX12_paired seX12_paired ⟨_, rfl, rfl⟩ dX12_pair_217 rfl k17 (Nat.le_of_ble_eq_true rfl) (Nat.zero_le _) (Nat.zero_le _) (Call.mono h (fun r18 M19 h => ?_))
    obtain ⟨v20, rfl, h⟩ := h
    obtain ⟨k21, h⟩ := h
    obtain ⟨i22, h⟩ := h
    refine r_iast (pc := 220) dX12_pair_220 k21 i22 ?_
    replace h := h _ rfl
    refine r_iinc (pc := 221) (i := 7) (v := _ + 1) dX12_pair_221 rfl rfl rfl ?_
    refine r_goto (pc := 224) (tgt := 167) dX12_pair_224 (by decide) ?_
    exact h
theorem eX12_canAsk {G : GG} {d rc rs : Nat} (o : Nat) (a1 : Int32)  {M : Mem} {Q : Option Value → Mem → Prop} (h : (x_h M o).1 = 28 ∧ Call G d 0 0 mX12_in [.int a1, .int 0, .int ((x_i M o 7) - 1)] M (fun r2 M3 => ∃ v4 : Int32, r2 = some (.int v4) ∧ (v4 = 0 → Q (some (.int 0)) M3) ∧ (¬ v4 = 0 → (x_h M3 o).1 = 28 ∧ (∃ b7, x_r M3 o 8 = some b7 ∧ (x_h M3 b7).1 = 1 ∧ vp_in a1 (x_h M3 b7).2 ∧ (¬ (x_i M3 b7 a1.toNatClampNeg) = 0 → Q (some (.int 0)) M3) ∧ ((x_i M3 b7 a1.toNatClampNeg) = 0 → ∃ b11, x_r M3 o 10 = some b11 ∧ (x_h M3 b11).1 = 1 ∧ vp_in a1 (x_h M3 b11).2 ∧ (¬ (x_i M3 b11 a1.toNatClampNeg) = (-1) → Q (some (.int 0)) M3) ∧ ((x_i M3 b11 a1.toNatClampNeg) = (-1) → Q (some (.int 1)) M3)))))) : Call G (d + 1) rc rs mX12_canAsk [.ref o, .int a1] M Q := by
  refine call_of (by decide) (Nat.le_of_ble_eq_true rfl) ?_
  show Wk G (d + 1) rc rs mX12_canAsk 0 [some (.ref o), some (.int a1)] [] M Q
  refine r_iload_n (pc := 0) (i := 1) dX12_canAsk_0 rfl rfl ?_
  refine r_iconst (pc := 1) (v := 0) dX12_canAsk_1 (by decide) ?_
  refine r_aload_n (pc := 2) (i := 0) dX12_canAsk_2 rfl rfl ?_
  obtain ⟨k1, h⟩ := h
  refine r_geti (pc := 3) flX12_256 dX12_canAsk_3 (Or.inl rfl) k1 ?_
  refine r_iconst (pc := 6) (v := 1) dX12_canAsk_6 (by decide) ?_
  refine r_isub (pc := 7) dX12_canAsk_7 ?_
  refine r_callS (pc := 8) (as := [_, _, _]) (st := []) okX12_in lkX12_218 stX12_in dX12_canAsk_8 rfl (Nat.le_of_ble_eq_true rfl) (Nat.zero_le _) (Nat.zero_le _) (Call.mono h (fun r2 M3 h => ?_))
  obtain ⟨v4, rfl, h⟩ := h
  refine r_if_eq (pc := 11) (tgt := 37) dX12_canAsk_11 (by decide) (fun c5 => ?_) (fun c5 => ?_)
  · replace h := h.1 c5
    refine r_iconst (pc := 37) (v := 0) dX12_canAsk_37 (by decide) ?_
    exact r_zret (pc := 38) dX12_canAsk_38 rfl (Or.inl rfl) h
  · replace h := h.2 c5
    refine r_aload_n (pc := 14) (i := 0) dX12_canAsk_14 rfl rfl ?_
    obtain ⟨k6, h⟩ := h
    obtain ⟨b7, hb7, h⟩ := h
    refine r_getr (pc := 15) flX12_29 dX12_canAsk_15 rfl k6 hb7 ?_
    refine r_iload_n (pc := 18) (i := 1) dX12_canAsk_18 rfl rfl ?_
    obtain ⟨k8, h⟩ := h
    obtain ⟨i9, h⟩ := h
    refine r_iald (pc := 19) dX12_canAsk_19 k8 i9 ?_
    refine r_if_ne (pc := 20) (tgt := 37) dX12_canAsk_20 (by decide) (fun c10 => ?_) (fun c10 => ?_)
    · replace h := h.1 c10
      refine r_iconst (pc := 37) (v := 0) dX12_canAsk_37 (by decide) ?_
      exact r_zret (pc := 38) dX12_canAsk_38 rfl (Or.inl rfl) h
    · replace h := h.2 c10
      refine r_aload_n (pc := 23) (i := 0) dX12_canAsk_23 rfl rfl ?_
      obtain ⟨b11, hb11, h⟩ := h
      refine r_getr (pc := 24) flX12_35 dX12_canAsk_24 rfl k6 hb11 ?_
      refine r_iload_n (pc := 27) (i := 1) dX12_canAsk_27 rfl rfl ?_
      obtain ⟨k12, h⟩ := h
      obtain ⟨i13, h⟩ := h
      refine r_iald (pc := 28) dX12_canAsk_28 k12 i13 ?_
      refine r_iconst (pc := 29) (v := (-1)) dX12_canAsk_29 (by decide) ?_
      refine r_icmp_ne (pc := 30) (tgt := 37) dX12_canAsk_30 (by decide) (fun c14 => ?_) (fun c14 => ?_)
      · replace h := h.1 c14
        refine r_iconst (pc := 37) (v := 0) dX12_canAsk_37 (by decide) ?_
        exact r_zret (pc := 38) dX12_canAsk_38 rfl (Or.inl rfl) h
      · replace h := h.2 c14
        refine r_iconst (pc := 33) (v := 1) dX12_canAsk_33 (by decide) ?_
        refine r_goto (pc := 34) (tgt := 38) dX12_canAsk_34 (by decide) ?_
        exact r_zret (pc := 38) dX12_canAsk_38 rfl (Or.inr rfl) h
abbrev LX12_sought_82 (G : GG) (d rc rs : Nat) (p0 : Nat) (x1 : Int32) (x2 : Int32) (z3 : Option Value) (M : Mem) (Q : Option Value → Mem → Prop) : Prop := Wk G (d + 1) rc rs mX12_sought 82 [some (.ref p0), some (.int x1), some (.int x2), z3] [] M Q
abbrev LX12_sought_117 (G : GG) (d rc rs : Nat) (p0 : Nat) (x1 : Int32) (x2 : Int32) (x3 : Int32) (M : Mem) (Q : Option Value → Mem → Prop) : Prop := Wk G (d + 1) rc rs mX12_sought 117 [some (.ref p0), some (.int x1), some (.int x2), some (.int x3)] [] M Q
theorem eX12_sought {G : GG} {d rc rs : Nat} (o : Nat) (a1 : Int32)  {M : Mem} {Q : Option Value → Mem → Prop} (h : (x_h M o).1 = 28 ∧ Call G d 0 0 mX12_in [.int a1, .int 0, .int ((x_i M o 7) - 1)] M (fun r2 M3 => ∃ v4 : Int32, r2 = some (.int v4) ∧ (¬ v4 = 0 → (x_h M3 o).1 = 28 ∧ (¬ (x_i M3 o 1) = 10 → Call G d 0 0 mX12_canAsk [.ref o, .int a1] M3 (fun r8 M9 => ∃ v10 : Int32, r8 = some (.int v10) ∧ (v10 = 0 → (x_h M9 o).1 = 28 ∧ Call G d 0 0 mX12_refused [.ref o, .int 3] M9 (fun r13 M14 => ∃ v15 : Int32, r13 = some (.int v15) ∧ Q (some (.int v15)) M14)) ∧ (¬ v10 = 0 → (x_h M9 o).1 = 28 ∧ (∃ b17, x_r M9 o 11 = some b17 ∧ (x_h M9 b17).1 = 1 ∧ vp_in a1 (x_h M9 b17).2 ∧ Call G d 0 0 mX12_bits [.int (x_i M9 b17 a1.toNatClampNeg)] M9 (fun r20 M21 => ∃ v22 : Int32, r20 = some (.int v22) ∧ (v22 = 1 → (x_h M21 o).1 = 28 ∧ (∃ b25, x_r M21 o 14 = some b25 ∧ (x_h M21 b25).1 = 1 ∧ vp_in a1 (x_h M21 b25).2 ∧ (∀ M28, M28 = x_si M21 o 25 (x_i M21 b25 a1.toNatClampNeg) → ∀ M29, M29 = x_si M28 o 26 (x_i M28 o 0) → LX12_sought_82 G d rc rs o a1 0 none M29 Q))) ∧ (¬ v22 = 1 → (x_h M21 o).1 = 28 ∧ Call G d 0 0 mX12_refused [.ref o, .int 3] M21 (fun r31 M32 => ∃ v33 : Int32, r31 = some (.int v33) ∧ Q (some (.int v33)) M32))))))) ∧ ((x_i M3 o 1) = 10 → Call G d 0 0 mX12_refused [.ref o, .int 2] M3 (fun r34 M35 => ∃ v36 : Int32, r34 = some (.int v36) ∧ Q (some (.int v36)) M35))) ∧ (v4 = 0 → (x_h M3 o).1 = 28 ∧ Call G d 0 0 mX12_refused [.ref o, .int 1] M3 (fun r38 M39 => ∃ v40 : Int32, r38 = some (.int v40) ∧ Q (some (.int v40)) M39)))) : Call G (d + 1) rc rs mX12_sought [.ref o, .int a1] M Q := by
  refine call_of (by decide) (Nat.le_of_ble_eq_true rfl) ?_
  show Wk G (d + 1) rc rs mX12_sought 0 [some (.ref o), some (.int a1), none, none] [] M Q
  refine r_iload_n (pc := 0) (i := 1) dX12_sought_0 rfl rfl ?_
  refine r_iconst (pc := 1) (v := 0) dX12_sought_1 (by decide) ?_
  refine r_aload_n (pc := 2) (i := 0) dX12_sought_2 rfl rfl ?_
  obtain ⟨k1, h⟩ := h
  refine r_geti (pc := 3) flX12_256 dX12_sought_3 (Or.inl rfl) k1 ?_
  refine r_iconst (pc := 6) (v := 1) dX12_sought_6 (by decide) ?_
  refine r_isub (pc := 7) dX12_sought_7 ?_
  refine r_callS (pc := 8) (as := [_, _, _]) (st := []) okX12_in lkX12_218 stX12_in dX12_sought_8 rfl (Nat.le_of_ble_eq_true rfl) (Nat.zero_le _) (Nat.zero_le _) (Call.mono h (fun r2 M3 h => ?_))
  obtain ⟨v4, rfl, h⟩ := h
  refine r_if_ne (pc := 11) (tgt := 20) dX12_sought_11 (by decide) (fun c5 => ?_) (fun c5 => ?_)
  · replace h := h.1 c5
    refine r_aload_n (pc := 20) (i := 0) dX12_sought_20 rfl rfl ?_
    obtain ⟨k6, h⟩ := h
    refine r_geti (pc := 21) flX12_215 dX12_sought_21 (Or.inl rfl) k6 ?_
    refine r_bipush (pc := 24) (v := 10) dX12_sought_24 (by decide) ?_
    refine r_icmp_ne (pc := 26) (tgt := 35) dX12_sought_26 (by decide) (fun c7 => ?_) (fun c7 => ?_)
    · replace h := h.1 c7
      refine r_aload_n (pc := 35) (i := 0) dX12_sought_35 rfl rfl ?_
      refine r_iload_n (pc := 36) (i := 1) dX12_sought_36 rfl rfl ?_
      refine r_callV (pc := 37) (ci := 12) (as := [_]) (st := []) okX12_canAsk lkX12_286 inX12_canAsk seX12_canAsk ⟨_, rfl, rfl⟩ dX12_sought_37 rfl k6 (Nat.le_of_ble_eq_true rfl) (Nat.zero_le _) (Nat.zero_le _) (Call.mono h (fun r8 M9 h => ?_))
      obtain ⟨v10, rfl, h⟩ := h
      refine r_if_eq (pc := 40) (tgt := 56) dX12_sought_40 (by decide) (fun c11 => ?_) (fun c11 => ?_)
      · replace h := h.1 c11
        refine r_aload_n (pc := 56) (i := 0) dX12_sought_56 rfl rfl ?_
        refine r_iconst (pc := 57) (v := 3) dX12_sought_57 (by decide) ?_
        obtain ⟨k12, h⟩ := h
        refine r_callV (pc := 58) (ci := 12) (as := [_]) (st := []) okX12_refused lkX12_253 inX12_refused seX12_refused ⟨_, rfl, rfl⟩ dX12_sought_58 rfl k12 (Nat.le_of_ble_eq_true rfl) (Nat.zero_le _) (Nat.zero_le _) (Call.mono h (fun r13 M14 h => ?_))
        obtain ⟨v15, rfl, h⟩ := h
        exact r_iret (pc := 61) dX12_sought_61 rfl h
      · replace h := h.2 c11
        refine r_aload_n (pc := 43) (i := 0) dX12_sought_43 rfl rfl ?_
        obtain ⟨k16, h⟩ := h
        obtain ⟨b17, hb17, h⟩ := h
        refine r_getr (pc := 44) flX12_38 dX12_sought_44 rfl k16 hb17 ?_
        refine r_iload_n (pc := 47) (i := 1) dX12_sought_47 rfl rfl ?_
        obtain ⟨k18, h⟩ := h
        obtain ⟨i19, h⟩ := h
        refine r_iald (pc := 48) dX12_sought_48 k18 i19 ?_
        refine r_callS (pc := 49) (as := [_]) (st := []) okX12_bits lkX12_222 stX12_bits dX12_sought_49 rfl (Nat.le_of_ble_eq_true rfl) (Nat.zero_le _) (Nat.zero_le _) (Call.mono h (fun r20 M21 h => ?_))
        obtain ⟨v22, rfl, h⟩ := h
        refine r_iconst (pc := 52) (v := 1) dX12_sought_52 (by decide) ?_
        refine r_icmp_eq (pc := 53) (tgt := 62) dX12_sought_53 (by decide) (fun c23 => ?_) (fun c23 => ?_)
        · replace h := h.1 c23
          refine r_aload_n (pc := 62) (i := 0) dX12_sought_62 rfl rfl ?_
          refine r_aload_n (pc := 63) (i := 0) dX12_sought_63 rfl rfl ?_
          obtain ⟨k24, h⟩ := h
          obtain ⟨b25, hb25, h⟩ := h
          refine r_getr (pc := 64) flX12_47 dX12_sought_64 rfl k24 hb25 ?_
          refine r_iload_n (pc := 67) (i := 1) dX12_sought_67 rfl rfl ?_
          obtain ⟨k26, h⟩ := h
          obtain ⟨i27, h⟩ := h
          refine r_iald (pc := 68) dX12_sought_68 k26 i27 ?_
          refine r_puti (pc := 69) flX12_234 dX12_sought_69 (Or.inl rfl) (fun q hq => by cases hq; rfl) k24 ?_
          replace h := h _ rfl
          refine r_aload_n (pc := 72) (i := 0) dX12_sought_72 rfl rfl ?_
          refine r_aload_n (pc := 73) (i := 0) dX12_sought_73 rfl rfl ?_
          refine r_geti (pc := 74) flX12_7 dX12_sought_74 (Or.inl rfl) k24 ?_
          refine r_puti (pc := 77) flX12_226 dX12_sought_77 (Or.inl rfl) (fun q hq => by cases hq; rfl) k24 ?_
          replace h := h _ rfl
          refine r_iconst (pc := 80) (v := 0) dX12_sought_80 (by decide) ?_
          refine r_istore_n (pc := 81) (i := 2) dX12_sought_81 rfl rfl (Nat.le_of_ble_eq_true rfl) ?_
          exact h
        · replace h := h.2 c23
          refine r_aload_n (pc := 56) (i := 0) dX12_sought_56 rfl rfl ?_
          refine r_iconst (pc := 57) (v := 3) dX12_sought_57 (by decide) ?_
          obtain ⟨k30, h⟩ := h
          refine r_callV (pc := 58) (ci := 12) (as := [_]) (st := []) okX12_refused lkX12_253 inX12_refused seX12_refused ⟨_, rfl, rfl⟩ dX12_sought_58 rfl k30 (Nat.le_of_ble_eq_true rfl) (Nat.zero_le _) (Nat.zero_le _) (Call.mono h (fun r31 M32 h => ?_))
          obtain ⟨v33, rfl, h⟩ := h
          exact r_iret (pc := 61) dX12_sought_61 rfl h
    · replace h := h.2 c7
      refine r_aload_n (pc := 29) (i := 0) dX12_sought_29 rfl rfl ?_
      refine r_iconst (pc := 30) (v := 2) dX12_sought_30 (by decide) ?_
      refine r_callV (pc := 31) (ci := 12) (as := [_]) (st := []) okX12_refused lkX12_253 inX12_refused seX12_refused ⟨_, rfl, rfl⟩ dX12_sought_31 rfl k6 (Nat.le_of_ble_eq_true rfl) (Nat.zero_le _) (Nat.zero_le _) (Call.mono h (fun r34 M35 h => ?_))
      obtain ⟨v36, rfl, h⟩ := h
      exact r_iret (pc := 34) dX12_sought_34 rfl h
  · replace h := h.2 c5
    refine r_aload_n (pc := 14) (i := 0) dX12_sought_14 rfl rfl ?_
    refine r_iconst (pc := 15) (v := 1) dX12_sought_15 (by decide) ?_
    obtain ⟨k37, h⟩ := h
    refine r_callV (pc := 16) (ci := 12) (as := [_]) (st := []) okX12_refused lkX12_253 inX12_refused seX12_refused ⟨_, rfl, rfl⟩ dX12_sought_16 rfl k37 (Nat.le_of_ble_eq_true rfl) (Nat.zero_le _) (Nat.zero_le _) (Call.mono h (fun r38 M39 h => ?_))
    obtain ⟨v40, rfl, h⟩ := h
    exact r_iret (pc := 19) dX12_sought_19 rfl h
theorem vX12_sought_82 {G : GG} {d rc rs : Nat} (p0 : Nat) (x1 : Int32) (x2 : Int32) (z3 : Option Value) (hz3 : c1 z3 = true) {M : Mem} {Q : Option Value → Mem → Prop} (h : (x_h M p0).1 = 28 ∧ ((x_i M p0 25) ≤ x2 → Call G d 0 0 mX12_least [.ref p0] M (fun r3 M4 => r3 = none ∧ (x_h M4 p0).1 = 28 ∧ (∃ b6, x_r M4 p0 6 = some b6 ∧ (x_h M4 b6).1 = 1 ∧ vp_in (x_i M4 p0 1) (x_h M4 b6).2 ∧ (∀ M9, M9 = x_si M4 b6 (x_i M4 p0 1).toNatClampNeg x1 → Call G d 0 0 mX12_newRow [.ref p0, .int 4] M9 (fun r10 M11 => ∃ v12 : Int32, r10 = some (.int v12) ∧ Q (some (.int v12)) M11))))) ∧ (¬ (x_i M p0 25) ≤ x2 → ∃ b13, x_r M p0 28 = some b13 ∧ ∃ b14, x_r M p0 16 = some b14 ∧ (x_h M b14).1 = 3 ∧ vp_in ((40 * x1) + x2) (x_h M b14).2 ∧ ((x_i M b14 ((40 * x1) + x2).toNatClampNeg) = 0 → (x_h M b13).1 = 1 ∧ vp_in x2 (x_h M b13).2 ∧ (∀ M20, M20 = x_si M b13 x2.toNatClampNeg 0 → LX12_sought_117 G d rc rs p0 x1 x2 0 M20 Q)) ∧ (¬ (x_i M b14 ((40 * x1) + x2).toNatClampNeg) = 0 → (x_h M b13).1 = 1 ∧ vp_in x2 (x_h M b13).2 ∧ (∀ M23, M23 = x_si M b13 x2.toNatClampNeg 1 → LX12_sought_117 G d rc rs p0 x1 x2 0 M23 Q)))) : LX12_sought_82 G d rc rs p0 x1 x2 z3 M Q := by
  show Wk G (d + 1) rc rs mX12_sought 82 _ _ M Q
  refine r_iload_n (pc := 82) (i := 2) dX12_sought_82 rfl rfl ?_
  refine r_aload_n (pc := 83) (i := 0) dX12_sought_83 rfl rfl ?_
  obtain ⟨k1, h⟩ := h
  refine r_geti (pc := 84) flX12_234 dX12_sought_84 (Or.inl rfl) k1 ?_
  refine r_icmp_ge (pc := 87) (tgt := 164) dX12_sought_87 (by decide) (fun c2 => ?_) (fun c2 => ?_)
  · replace h := h.1 c2
    refine r_aload_n (pc := 164) (i := 0) dX12_sought_164 rfl rfl ?_
    refine r_callV (pc := 165) (ci := 12) (as := []) (st := []) okX12_least lkX12_266 inX12_least seX12_least ⟨_, rfl, rfl⟩ dX12_sought_165 rfl k1 (Nat.le_of_ble_eq_true rfl) (Nat.zero_le _) (Nat.zero_le _) (Call.mono h (fun r3 M4 h => ?_))
    obtain ⟨rfl, h⟩ := h
    refine r_aload_n (pc := 168) (i := 0) dX12_sought_168 rfl rfl ?_
    obtain ⟨k5, h⟩ := h
    obtain ⟨b6, hb6, h⟩ := h
    refine r_getr (pc := 169) flX12_26 dX12_sought_169 rfl k5 hb6 ?_
    refine r_aload_n (pc := 172) (i := 0) dX12_sought_172 rfl rfl ?_
    refine r_geti (pc := 173) flX12_215 dX12_sought_173 (Or.inl rfl) k5 ?_
    refine r_iload_n (pc := 176) (i := 1) dX12_sought_176 rfl rfl ?_
    obtain ⟨k7, h⟩ := h
    obtain ⟨i8, h⟩ := h
    refine r_iast (pc := 177) dX12_sought_177 k7 i8 ?_
    replace h := h _ rfl
    refine r_aload_n (pc := 178) (i := 0) dX12_sought_178 rfl rfl ?_
    refine r_iconst (pc := 179) (v := 4) dX12_sought_179 (by decide) ?_
    refine r_callV (pc := 180) (ci := 12) (as := [_]) (st := []) okX12_newRow lkX12_269 inX12_newRow seX12_newRow ⟨_, rfl, rfl⟩ dX12_sought_180 rfl k5 (Nat.le_of_ble_eq_true rfl) (Nat.zero_le _) (Nat.zero_le _) (Call.mono h (fun r10 M11 h => ?_))
    obtain ⟨v12, rfl, h⟩ := h
    exact r_iret (pc := 183) dX12_sought_183 rfl h
  · replace h := h.2 c2
    refine r_aload_n (pc := 90) (i := 0) dX12_sought_90 rfl rfl ?_
    obtain ⟨b13, hb13, h⟩ := h
    refine r_getr (pc := 91) flX12_76 dX12_sought_91 rfl k1 hb13 ?_
    refine r_iload_n (pc := 94) (i := 2) dX12_sought_94 rfl rfl ?_
    refine r_aload_n (pc := 95) (i := 0) dX12_sought_95 rfl rfl ?_
    obtain ⟨b14, hb14, h⟩ := h
    refine r_getr (pc := 96) flX12_53 dX12_sought_96 rfl k1 hb14 ?_
    refine r_bipush (pc := 99) (v := 40) dX12_sought_99 (by decide) ?_
    refine r_iload_n (pc := 101) (i := 1) dX12_sought_101 rfl rfl ?_
    refine r_imul (pc := 102) dX12_sought_102 ?_
    refine r_iload_n (pc := 103) (i := 2) dX12_sought_103 rfl rfl ?_
    refine r_iadd (pc := 104) dX12_sought_104 ?_
    obtain ⟨k15, h⟩ := h
    obtain ⟨i16, h⟩ := h
    refine r_zald (pc := 105) dX12_sought_105 k15 i16 ?_
    refine r_if_eq (pc := 106) (tgt := 113) dX12_sought_106 (by decide) (fun c17 => ?_) (fun c17 => ?_)
    · replace h := h.1 c17
      refine r_iconst (pc := 113) (v := 0) dX12_sought_113 (by decide) ?_
      obtain ⟨k18, h⟩ := h
      obtain ⟨i19, h⟩ := h
      refine r_iast (pc := 114) dX12_sought_114 k18 i19 ?_
      replace h := h _ rfl
      refine r_iconst (pc := 115) (v := 0) dX12_sought_115 (by decide) ?_
      refine r_istore_n (pc := 116) (i := 3) dX12_sought_116 rfl rfl (Nat.le_of_ble_eq_true rfl) ?_
      exact h
    · replace h := h.2 c17
      refine r_iconst (pc := 109) (v := 1) dX12_sought_109 (by decide) ?_
      refine r_goto (pc := 110) (tgt := 114) dX12_sought_110 (by decide) ?_
      obtain ⟨k21, h⟩ := h
      obtain ⟨i22, h⟩ := h
      refine r_iast (pc := 114) dX12_sought_114 k21 i22 ?_
      replace h := h _ rfl
      refine r_iconst (pc := 115) (v := 0) dX12_sought_115 (by decide) ?_
      refine r_istore_n (pc := 116) (i := 3) dX12_sought_116 rfl rfl (Nat.le_of_ble_eq_true rfl) ?_
      exact h
theorem vX12_sought_117 {G : GG} {d rc rs : Nat} (p0 : Nat) (x1 : Int32) (x2 : Int32) (x3 : Int32)  {M : Mem} {Q : Option Value → Mem → Prop} (h : (x_h M p0).1 = 28 ∧ ((x_i M p0 0) ≤ x3 → LX12_sought_82 G d rc rs p0 x1 (x2 + 1) (some (.int x3)) M Q) ∧ (¬ (x_i M p0 0) ≤ x3 → ∃ b3, x_r M p0 27 = some b3 ∧ ∃ b4, x_r M p0 15 = some b4 ∧ (x_h M b4).1 = 1 ∧ vp_in ((27 * ((40 * x1) + x2)) + x3) (x_h M b4).2 ∧ (x_h M b3).1 = 1 ∧ vp_in ((27 * x2) + x3) (x_h M b3).2 ∧ (∀ M9, M9 = x_si M b3 ((27 * x2) + x3).toNatClampNeg (x_i M b4 ((27 * ((40 * x1) + x2)) + x3).toNatClampNeg) → LX12_sought_117 G d rc rs p0 x1 x2 (x3 + 1) M9 Q))) : LX12_sought_117 G d rc rs p0 x1 x2 x3 M Q := by
  show Wk G (d + 1) rc rs mX12_sought 117 _ _ M Q
  refine r_iload_n (pc := 117) (i := 3) dX12_sought_117 rfl rfl ?_
  refine r_aload_n (pc := 118) (i := 0) dX12_sought_118 rfl rfl ?_
  obtain ⟨k1, h⟩ := h
  refine r_geti (pc := 119) flX12_7 dX12_sought_119 (Or.inl rfl) k1 ?_
  refine r_icmp_ge (pc := 122) (tgt := 158) dX12_sought_122 (by decide) (fun c2 => ?_) (fun c2 => ?_)
  · replace h := h.1 c2
    refine r_iinc (pc := 158) (i := 2) (v := _ + 1) dX12_sought_158 rfl rfl rfl ?_
    refine r_goto (pc := 161) (tgt := 82) dX12_sought_161 (by decide) ?_
    exact h
  · replace h := h.2 c2
    refine r_aload_n (pc := 125) (i := 0) dX12_sought_125 rfl rfl ?_
    obtain ⟨b3, hb3, h⟩ := h
    refine r_getr (pc := 126) flX12_73 dX12_sought_126 rfl k1 hb3 ?_
    refine r_bipush (pc := 129) (v := 27) dX12_sought_129 (by decide) ?_
    refine r_iload_n (pc := 131) (i := 2) dX12_sought_131 rfl rfl ?_
    refine r_imul (pc := 132) dX12_sought_132 ?_
    refine r_iload_n (pc := 133) (i := 3) dX12_sought_133 rfl rfl ?_
    refine r_iadd (pc := 134) dX12_sought_134 ?_
    refine r_aload_n (pc := 135) (i := 0) dX12_sought_135 rfl rfl ?_
    obtain ⟨b4, hb4, h⟩ := h
    refine r_getr (pc := 136) flX12_50 dX12_sought_136 rfl k1 hb4 ?_
    refine r_bipush (pc := 139) (v := 27) dX12_sought_139 (by decide) ?_
    refine r_bipush (pc := 141) (v := 40) dX12_sought_141 (by decide) ?_
    refine r_iload_n (pc := 143) (i := 1) dX12_sought_143 rfl rfl ?_
    refine r_imul (pc := 144) dX12_sought_144 ?_
    refine r_iload_n (pc := 145) (i := 2) dX12_sought_145 rfl rfl ?_
    refine r_iadd (pc := 146) dX12_sought_146 ?_
    refine r_imul (pc := 147) dX12_sought_147 ?_
    refine r_iload_n (pc := 148) (i := 3) dX12_sought_148 rfl rfl ?_
    refine r_iadd (pc := 149) dX12_sought_149 ?_
    obtain ⟨k5, h⟩ := h
    obtain ⟨i6, h⟩ := h
    refine r_iald (pc := 150) dX12_sought_150 k5 i6 ?_
    obtain ⟨k7, h⟩ := h
    obtain ⟨i8, h⟩ := h
    refine r_iast (pc := 151) dX12_sought_151 k7 i8 ?_
    replace h := h _ rfl
    refine r_iinc (pc := 152) (i := 3) (v := _ + 1) dX12_sought_152 rfl rfl rfl ?_
    refine r_goto (pc := 155) (tgt := 117) dX12_sought_155 (by decide) ?_
    exact h
abbrev LX12_feed_36 (G : GG) (d rc rs : Nat) (p0 : Nat) (x1 : Int32) (l2 : Int64) (x4 : Int32) (M : Mem) (Q : Option Value → Mem → Prop) : Prop := Wk G (d + 1) rc rs mX12_feed 36 [some (.ref p0), some (.int x1), some (.long l2), none, some (.int x4)] [] M Q
theorem eX12_feed {G : GG} {d rc rs : Nat} (o : Nat) (a1 : Int32) (a2 : Int64)  {M : Mem} {Q : Option Value → Mem → Prop} (h : Call G d 0 0 mX12_in [.int a1, .int 1, .int 8] M (fun r1 M2 => ∃ v3 : Int32, r1 = some (.int v3) ∧ (¬ v3 = 0 → (x_h M2 o).1 = 28 ∧ (((x_i M2 o 18) + a1) ≤ 120 → LX12_feed_36 G d rc rs o a1 a2 0 M2 Q) ∧ (¬ ((x_i M2 o 18) + a1) ≤ 120 → Call G d 0 0 mX12_refused [.ref o, .int 2] M2 (fun r7 M8 => ∃ v9 : Int32, r7 = some (.int v9) ∧ Q (some (.int v9)) M8))) ∧ (v3 = 0 → (x_h M2 o).1 = 28 ∧ Call G d 0 0 mX12_refused [.ref o, .int 1] M2 (fun r11 M12 => ∃ v13 : Int32, r11 = some (.int v13) ∧ Q (some (.int v13)) M12)))) : Call G (d + 1) rc rs mX12_feed [.ref o, .int a1, .long a2] M Q := by
  refine call_of (by decide) (Nat.le_of_ble_eq_true rfl) ?_
  show Wk G (d + 1) rc rs mX12_feed 0 [some (.ref o), some (.int a1), some (.long a2), none, none] [] M Q
  refine r_iload_n (pc := 0) (i := 1) dX12_feed_0 rfl rfl ?_
  refine r_iconst (pc := 1) (v := 1) dX12_feed_1 (by decide) ?_
  refine r_bipush (pc := 2) (v := 8) dX12_feed_2 (by decide) ?_
  refine r_callS (pc := 4) (as := [_, _, _]) (st := []) okX12_in lkX12_218 stX12_in dX12_feed_4 rfl (Nat.le_of_ble_eq_true rfl) (Nat.zero_le _) (Nat.zero_le _) (Call.mono h (fun r1 M2 h => ?_))
  obtain ⟨v3, rfl, h⟩ := h
  refine r_if_ne (pc := 7) (tgt := 16) dX12_feed_7 (by decide) (fun c4 => ?_) (fun c4 => ?_)
  · replace h := h.1 c4
    refine r_aload_n (pc := 16) (i := 0) dX12_feed_16 rfl rfl ?_
    obtain ⟨k5, h⟩ := h
    refine r_geti (pc := 17) flX12_289 dX12_feed_17 (Or.inl rfl) k5 ?_
    refine r_iload_n (pc := 20) (i := 1) dX12_feed_20 rfl rfl ?_
    refine r_iadd (pc := 21) dX12_feed_21 ?_
    refine r_bipush (pc := 22) (v := 120) dX12_feed_22 (by decide) ?_
    refine r_icmp_le (pc := 24) (tgt := 33) dX12_feed_24 (by decide) (fun c6 => ?_) (fun c6 => ?_)
    · replace h := h.1 c6
      refine r_iconst (pc := 33) (v := 0) dX12_feed_33 (by decide) ?_
      refine r_istore (pc := 34) (i := 4) dX12_feed_34 rfl (Nat.le_of_ble_eq_true rfl) ?_
      exact h
    · replace h := h.2 c6
      refine r_aload_n (pc := 27) (i := 0) dX12_feed_27 rfl rfl ?_
      refine r_iconst (pc := 28) (v := 2) dX12_feed_28 (by decide) ?_
      refine r_callV (pc := 29) (ci := 12) (as := [_]) (st := []) okX12_refused lkX12_253 inX12_refused seX12_refused ⟨_, rfl, rfl⟩ dX12_feed_29 rfl k5 (Nat.le_of_ble_eq_true rfl) (Nat.zero_le _) (Nat.zero_le _) (Call.mono h (fun r7 M8 h => ?_))
      obtain ⟨v9, rfl, h⟩ := h
      exact r_iret (pc := 32) dX12_feed_32 rfl h
  · replace h := h.2 c4
    refine r_aload_n (pc := 10) (i := 0) dX12_feed_10 rfl rfl ?_
    refine r_iconst (pc := 11) (v := 1) dX12_feed_11 (by decide) ?_
    obtain ⟨k10, h⟩ := h
    refine r_callV (pc := 12) (ci := 12) (as := [_]) (st := []) okX12_refused lkX12_253 inX12_refused seX12_refused ⟨_, rfl, rfl⟩ dX12_feed_12 rfl k10 (Nat.le_of_ble_eq_true rfl) (Nat.zero_le _) (Nat.zero_le _) (Call.mono h (fun r11 M12 h => ?_))
    obtain ⟨v13, rfl, h⟩ := h
    exact r_iret (pc := 15) dX12_feed_15 rfl h
theorem vX12_feed_36 {G : GG} {d rc rs : Nat} (p0 : Nat) (x1 : Int32) (l2 : Int64) (x4 : Int32)  {M : Mem} {Q : Option Value → Mem → Prop} (h : (x1 ≤ x4 → (x_h M p0).1 = 28 ∧ Call G d 0 0 mX12_done [.ref p0, .int (x_i M p0 18)] M (fun r3 M4 => ∃ v5 : Int32, r3 = some (.int v5) ∧ Q (some (.int v5)) M4)) ∧ (¬ x1 ≤ x4 → (x_h M p0).1 = 28 ∧ (∃ b7, x_r M p0 17 = some b7 ∧ (x_h M b7).1 = 1 ∧ vp_in (x_i M p0 18) (x_h M b7).2 ∧ (∀ M10, M10 = x_si M b7 (x_i M p0 18).toNatClampNeg (((l2 >>> ((8 * x4).toInt64 &&& 63)) &&& 255).toInt32) → ∀ M11, M11 = x_si M10 p0 18 ((x_i M10 p0 18) + 1) → LX12_feed_36 G d rc rs p0 x1 l2 (x4 + 1) M11 Q)))) : LX12_feed_36 G d rc rs p0 x1 l2 x4 M Q := by
  show Wk G (d + 1) rc rs mX12_feed 36 _ _ M Q
  refine r_iload (pc := 36) (i := 4) dX12_feed_36 rfl ?_
  refine r_iload_n (pc := 38) (i := 1) dX12_feed_38 rfl rfl ?_
  refine r_icmp_ge (pc := 39) (tgt := 79) dX12_feed_39 (by decide) (fun c1 => ?_) (fun c1 => ?_)
  · replace h := h.1 c1
    refine r_aload_n (pc := 79) (i := 0) dX12_feed_79 rfl rfl ?_
    refine r_aload_n (pc := 80) (i := 0) dX12_feed_80 rfl rfl ?_
    obtain ⟨k2, h⟩ := h
    refine r_geti (pc := 81) flX12_289 dX12_feed_81 (Or.inl rfl) k2 ?_
    refine r_callV (pc := 84) (ci := 12) (as := [_]) (st := []) okX12_done lkX12_250 inX12_done seX12_done ⟨_, rfl, rfl⟩ dX12_feed_84 rfl k2 (Nat.le_of_ble_eq_true rfl) (Nat.zero_le _) (Nat.zero_le _) (Call.mono h (fun r3 M4 h => ?_))
    obtain ⟨v5, rfl, h⟩ := h
    exact r_iret (pc := 87) dX12_feed_87 rfl h
  · replace h := h.2 c1
    refine r_aload_n (pc := 42) (i := 0) dX12_feed_42 rfl rfl ?_
    obtain ⟨k6, h⟩ := h
    obtain ⟨b7, hb7, h⟩ := h
    refine r_getr (pc := 43) flX12_57 dX12_feed_43 rfl k6 hb7 ?_
    refine r_aload_n (pc := 46) (i := 0) dX12_feed_46 rfl rfl ?_
    refine r_geti (pc := 47) flX12_289 dX12_feed_47 (Or.inl rfl) k6 ?_
    refine r_lload_n (pc := 50) (i := 2) dX12_feed_50 rfl rfl ?_
    refine r_bipush (pc := 51) (v := 8) dX12_feed_51 (by decide) ?_
    refine r_iload (pc := 53) (i := 4) dX12_feed_53 rfl ?_
    refine r_imul (pc := 55) dX12_feed_55 ?_
    refine r_lshr (pc := 56) dX12_feed_56 ?_
    refine r_ldc2 (pc := 57) (v := 255) dX12_feed_57 ww_1588 ?_
    refine r_land (pc := 60) dX12_feed_60 ?_
    refine r_l2i (pc := 61) dX12_feed_61 ?_
    obtain ⟨k8, h⟩ := h
    obtain ⟨i9, h⟩ := h
    refine r_iast (pc := 62) dX12_feed_62 k8 i9 ?_
    replace h := h _ rfl
    refine r_aload_n (pc := 63) (i := 0) dX12_feed_63 rfl rfl ?_
    refine r_dup (pc := 64) dX12_feed_64 rfl ?_
    refine r_geti (pc := 65) flX12_289 dX12_feed_65 (Or.inl rfl) k6 ?_
    refine r_iconst (pc := 68) (v := 1) dX12_feed_68 (by decide) ?_
    refine r_iadd (pc := 69) dX12_feed_69 ?_
    refine r_puti (pc := 70) flX12_289 dX12_feed_70 (Or.inl rfl) (fun q hq => by cases hq; rfl) k6 ?_
    replace h := h _ rfl
    refine r_iinc (pc := 73) (i := 4) (v := _ + 1) dX12_feed_73 rfl rfl rfl ?_
    refine r_goto (pc := 76) (tgt := 36) dX12_feed_76 (by decide) ?_
    exact h
