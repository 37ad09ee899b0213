theorem dX12_init_0 : decode cX12_init 0 = .ok (.aload_n 0, 1) := by decide +kernel
theorem dX12_init_1 : decode cX12_init 1 = .ok (.invokespecial 1, 3) := by decide +kernel
theorem dX12_init_4 : decode cX12_init 4 = .ok (.aload_n 0, 1) := by decide +kernel
theorem dX12_init_5 : decode cX12_init 5 = .ok (.bipush 12, 2) := by decide +kernel
theorem dX12_init_7 : decode cX12_init 7 = .ok (.newarray .int, 2) := by decide +kernel
theorem dX12_init_9 : decode cX12_init 9 = .ok (.putfield 7, 3) := by decide +kernel
theorem dX12_init_12 : decode cX12_init 12 = .ok (.aload_n 0, 1) := by decide +kernel
theorem dX12_init_13 : decode cX12_init 13 = .ok (.bipush 12, 2) := by decide +kernel
theorem dX12_init_15 : decode cX12_init 15 = .ok (.newarray .int, 2) := by decide +kernel
theorem dX12_init_17 : decode cX12_init 17 = .ok (.putfield 13, 3) := by decide +kernel
theorem dX12_init_20 : decode cX12_init 20 = .ok (.aload_n 0, 1) := by decide +kernel
theorem dX12_init_21 : decode cX12_init 21 = .ok (.bipush 12, 2) := by decide +kernel
theorem dX12_init_23 : decode cX12_init 23 = .ok (.newarray .int, 2) := by decide +kernel
theorem dX12_init_25 : decode cX12_init 25 = .ok (.putfield 16, 3) := by decide +kernel
theorem dX12_init_28 : decode cX12_init 28 = .ok (.aload_n 0, 1) := by decide +kernel
theorem dX12_init_29 : decode cX12_init 29 = .ok (.bipush 10, 2) := by decide +kernel
theorem dX12_init_31 : decode cX12_init 31 = .ok (.newarray .int, 2) := by decide +kernel
theorem dX12_init_33 : decode cX12_init 33 = .ok (.putfield 19, 3) := by decide +kernel
theorem dX12_init_36 : decode cX12_init 36 = .ok (.aload_n 0, 1) := by decide +kernel
theorem dX12_init_37 : decode cX12_init 37 = .ok (.bipush 10, 2) := by decide +kernel
theorem dX12_init_39 : decode cX12_init 39 = .ok (.newarray .int, 2) := by decide +kernel
theorem dX12_init_41 : decode cX12_init 41 = .ok (.putfield 22, 3) := by decide +kernel
theorem dX12_init_44 : decode cX12_init 44 = .ok (.aload_n 0, 1) := by decide +kernel
theorem dX12_init_45 : decode cX12_init 45 = .ok (.bipush 10, 2) := by decide +kernel
theorem dX12_init_47 : decode cX12_init 47 = .ok (.newarray .int, 2) := by decide +kernel
theorem dX12_init_49 : decode cX12_init 49 = .ok (.putfield 25, 3) := by decide +kernel
theorem dX12_init_52 : decode cX12_init 52 = .ok (.aload_n 0, 1) := by decide +kernel
theorem dX12_init_53 : decode cX12_init 53 = .ok (.bipush 10, 2) := by decide +kernel
theorem dX12_init_55 : decode cX12_init 55 = .ok (.newarray .int, 2) := by decide +kernel
theorem dX12_init_57 : decode cX12_init 57 = .ok (.putfield 28, 3) := by decide +kernel
theorem dX12_init_60 : decode cX12_init 60 = .ok (.aload_n 0, 1) := by decide +kernel
theorem dX12_init_61 : decode cX12_init 61 = .ok (.bipush 10, 2) := by decide +kernel
theorem dX12_init_63 : decode cX12_init 63 = .ok (.newarray .int, 2) := by decide +kernel
theorem dX12_init_65 : decode cX12_init 65 = .ok (.putfield 31, 3) := by decide +kernel
theorem dX12_init_68 : decode cX12_init 68 = .ok (.aload_n 0, 1) := by decide +kernel
theorem dX12_init_69 : decode cX12_init 69 = .ok (.sipush 1500, 3) := by decide +kernel
theorem dX12_init_72 : decode cX12_init 72 = .ok (.newarray .int, 2) := by decide +kernel
theorem dX12_init_74 : decode cX12_init 74 = .ok (.putfield 34, 3) := by decide +kernel
theorem dX12_init_77 : decode cX12_init 77 = .ok (.aload_n 0, 1) := by decide +kernel
theorem dX12_init_78 : decode cX12_init 78 = .ok (.bipush 120, 2) := by decide +kernel
theorem dX12_init_80 : decode cX12_init 80 = .ok (.newarray .int, 2) := by decide +kernel
theorem dX12_init_82 : decode cX12_init 82 = .ok (.putfield 37, 3) := by decide +kernel
theorem dX12_init_85 : decode cX12_init 85 = .ok (.aload_n 0, 1) := by decide +kernel
theorem dX12_init_86 : decode cX12_init 86 = .ok (.bipush 120, 2) := by decide +kernel
theorem dX12_init_88 : decode cX12_init 88 = .ok (.newarray .int, 2) := by decide +kernel
theorem dX12_init_90 : decode cX12_init 90 = .ok (.putfield 40, 3) := by decide +kernel
theorem dX12_init_93 : decode cX12_init 93 = .ok (.aload_n 0, 1) := by decide +kernel
theorem dX12_init_94 : decode cX12_init 94 = .ok (.sipush 200, 3) := by decide +kernel
theorem dX12_init_97 : decode cX12_init 97 = .ok (.newarray .int, 2) := by decide +kernel
theorem dX12_init_99 : decode cX12_init 99 = .ok (.putfield 43, 3) := by decide +kernel
theorem dX12_init_102 : decode cX12_init 102 = .ok (.aload_n 0, 1) := by decide +kernel
theorem dX12_init_103 : decode cX12_init 103 = .ok (.sipush 200, 3) := by decide +kernel
theorem dX12_init_106 : decode cX12_init 106 = .ok (.newarray .int, 2) := by decide +kernel
theorem dX12_init_108 : decode cX12_init 108 = .ok (.putfield 46, 3) := by decide +kernel
theorem dX12_init_111 : decode cX12_init 111 = .ok (.aload_n 0, 1) := by decide +kernel
theorem dX12_init_112 : decode cX12_init 112 = .ok (.sipush 200, 3) := by decide +kernel
theorem dX12_init_115 : decode cX12_init 115 = .ok (.newarray .int, 2) := by decide +kernel
theorem dX12_init_117 : decode cX12_init 117 = .ok (.putfield 49, 3) := by decide +kernel
theorem dX12_init_120 : decode cX12_init 120 = .ok (.aload_n 0, 1) := by decide +kernel
theorem dX12_init_121 : decode cX12_init 121 = .ok (.sipush 200, 3) := by decide +kernel
theorem dX12_init_124 : decode cX12_init 124 = .ok (.newarray .int, 2) := by decide +kernel
theorem dX12_init_126 : decode cX12_init 126 = .ok (.putfield 52, 3) := by decide +kernel
theorem dX12_init_129 : decode cX12_init 129 = .ok (.aload_n 0, 1) := by decide +kernel
theorem dX12_init_130 : decode cX12_init 130 = .ok (.sipush 200, 3) := by decide +kernel
theorem dX12_init_133 : decode cX12_init 133 = .ok (.newarray .int, 2) := by decide +kernel
theorem dX12_init_135 : decode cX12_init 135 = .ok (.putfield 55, 3) := by decide +kernel
theorem dX12_init_138 : decode cX12_init 138 = .ok (.aload_n 0, 1) := by decide +kernel
theorem dX12_init_139 : decode cX12_init 139 = .ok (.sipush 200, 3) := by decide +kernel
theorem dX12_init_142 : decode cX12_init 142 = .ok (.newarray .int, 2) := by decide +kernel
theorem dX12_init_144 : decode cX12_init 144 = .ok (.putfield 58, 3) := by decide +kernel
theorem dX12_init_147 : decode cX12_init 147 = .ok (.aload_n 0, 1) := by decide +kernel
theorem dX12_init_148 : decode cX12_init 148 = .ok (.sipush 200, 3) := by decide +kernel
theorem dX12_init_151 : decode cX12_init 151 = .ok (.newarray .int, 2) := by decide +kernel
theorem dX12_init_153 : decode cX12_init 153 = .ok (.putfield 61, 3) := by decide +kernel
theorem dX12_init_156 : decode cX12_init 156 = .ok (.aload_n 0, 1) := by decide +kernel
theorem dX12_init_157 : decode cX12_init 157 = .ok (.sipush 200, 3) := by decide +kernel
theorem dX12_init_160 : decode cX12_init 160 = .ok (.newarray .int, 2) := by decide +kernel
theorem dX12_init_162 : decode cX12_init 162 = .ok (.putfield 64, 3) := by decide +kernel
theorem dX12_init_165 : decode cX12_init 165 = .ok (.aload_n 0, 1) := by decide +kernel
theorem dX12_init_166 : decode cX12_init 166 = .ok (.sipush 200, 3) := by decide +kernel
theorem dX12_init_169 : decode cX12_init 169 = .ok (.newarray .int, 2) := by decide +kernel
theorem dX12_init_171 : decode cX12_init 171 = .ok (.putfield 67, 3) := by decide +kernel
theorem dX12_init_174 : decode cX12_init 174 = .ok (.aload_n 0, 1) := by decide +kernel
theorem dX12_init_175 : decode cX12_init 175 = .ok (.sipush 200, 3) := by decide +kernel
theorem dX12_init_178 : decode cX12_init 178 = .ok (.newarray .int, 2) := by decide +kernel
theorem dX12_init_180 : decode cX12_init 180 = .ok (.putfield 70, 3) := by decide +kernel
theorem dX12_init_183 : decode cX12_init 183 = .ok (.aload_n 0, 1) := by decide +kernel
theorem dX12_init_184 : decode cX12_init 184 = .ok (.sipush 200, 3) := by decide +kernel
theorem dX12_init_187 : decode cX12_init 187 = .ok (.newarray .int, 2) := by decide +kernel
theorem dX12_init_189 : decode cX12_init 189 = .ok (.putfield 73, 3) := by decide +kernel
theorem dX12_init_192 : decode cX12_init 192 = .ok (.aload_n 0, 1) := by decide +kernel
theorem dX12_init_193 : decode cX12_init 193 = .ok (.sipush 200, 3) := by decide +kernel
theorem dX12_init_196 : decode cX12_init 196 = .ok (.newarray .int, 2) := by decide +kernel
theorem dX12_init_198 : decode cX12_init 198 = .ok (.putfield 76, 3) := by decide +kernel
theorem dX12_init_201 : decode cX12_init 201 = .ok (.aload_n 0, 1) := by decide +kernel
theorem dX12_init_202 : decode cX12_init 202 = .ok (.sipush 1500, 3) := by decide +kernel
theorem dX12_init_205 : decode cX12_init 205 = .ok (.newarray .int, 2) := by decide +kernel
theorem dX12_init_207 : decode cX12_init 207 = .ok (.putfield 79, 3) := by decide +kernel
theorem dX12_init_210 : decode cX12_init 210 = .ok (.aload_n 0, 1) := by decide +kernel
theorem dX12_init_211 : decode cX12_init 211 = .ok (.sipush 160, 3) := by decide +kernel
theorem dX12_init_214 : decode cX12_init 214 = .ok (.newarray .byte, 2) := by decide +kernel
theorem dX12_init_216 : decode cX12_init 216 = .ok (.putfield 82, 3) := by decide +kernel
theorem dX12_init_219 : decode cX12_init 219 = .ok (.aload_n 0, 1) := by decide +kernel
theorem dX12_init_220 : decode cX12_init 220 = .ok (.bipush 16, 2) := by decide +kernel
theorem dX12_init_222 : decode cX12_init 222 = .ok (.newarray .int, 2) := by decide +kernel
theorem dX12_init_224 : decode cX12_init 224 = .ok (.putfield 86, 3) := by decide +kernel
theorem dX12_init_227 : decode cX12_init 227 = .ok (.aload_n 0, 1) := by decide +kernel
theorem dX12_init_228 : decode cX12_init 228 = .ok (.bipush 16, 2) := by decide +kernel
theorem dX12_init_230 : decode cX12_init 230 = .ok (.newarray .int, 2) := by decide +kernel
theorem dX12_init_232 : decode cX12_init 232 = .ok (.putfield 89, 3) := by decide +kernel
theorem dX12_init_235 : decode cX12_init 235 = .ok (.aload_n 0, 1) := by decide +kernel
theorem dX12_init_236 : decode cX12_init 236 = .ok (.bipush 16, 2) := by decide +kernel
theorem dX12_init_238 : decode cX12_init 238 = .ok (.newarray .int, 2) := by decide +kernel
theorem dX12_init_240 : decode cX12_init 240 = .ok (.putfield 92, 3) := by decide +kernel
theorem dX12_init_243 : decode cX12_init 243 = .ok (.aload_n 0, 1) := by decide +kernel
theorem dX12_init_244 : decode cX12_init 244 = .ok (.bipush 17, 2) := by decide +kernel
theorem dX12_init_246 : decode cX12_init 246 = .ok (.newarray .int, 2) := by decide +kernel
theorem dX12_init_248 : decode cX12_init 248 = .ok (.putfield 95, 3) := by decide +kernel
theorem dX12_init_251 : decode cX12_init 251 = .ok (.aload_n 0, 1) := by decide +kernel
theorem dX12_init_252 : decode cX12_init 252 = .ok (.sipush 2890, 3) := by decide +kernel
theorem dX12_init_255 : decode cX12_init 255 = .ok (.newarray .int, 2) := by decide +kernel
theorem dX12_init_257 : decode cX12_init 257 = .ok (.putfield 98, 3) := by decide +kernel
theorem dX12_init_260 : decode cX12_init 260 = .ok (.aload_n 0, 1) := by decide +kernel
theorem dX12_init_261 : decode cX12_init 261 = .ok (.sipush 2890, 3) := by decide +kernel
theorem dX12_init_264 : decode cX12_init 264 = .ok (.newarray .int, 2) := by decide +kernel
theorem dX12_init_266 : decode cX12_init 266 = .ok (.putfield 101, 3) := by decide +kernel
theorem dX12_init_269 : decode cX12_init 269 = .ok (.aload_n 0, 1) := by decide +kernel
theorem dX12_init_270 : decode cX12_init 270 = .ok (.sipush 180, 3) := by decide +kernel
theorem dX12_init_273 : decode cX12_init 273 = .ok (.newarray .int, 2) := by decide +kernel
theorem dX12_init_275 : decode cX12_init 275 = .ok (.putfield 104, 3) := by decide +kernel
theorem dX12_init_278 : decode cX12_init 278 = .ok (.aload_n 0, 1) := by decide +kernel
theorem dX12_init_279 : decode cX12_init 279 = .ok (.sipush 600, 3) := by decide +kernel
theorem dX12_init_282 : decode cX12_init 282 = .ok (.newarray .int, 2) := by decide +kernel
theorem dX12_init_284 : decode cX12_init 284 = .ok (.putfield 107, 3) := by decide +kernel
theorem dX12_init_287 : decode cX12_init 287 = .ok (.aload_n 0, 1) := by decide +kernel
theorem dX12_init_288 : decode cX12_init 288 = .ok (.sipush 600, 3) := by decide +kernel
theorem dX12_init_291 : decode cX12_init 291 = .ok (.newarray .int, 2) := by decide +kernel
theorem dX12_init_293 : decode cX12_init 293 = .ok (.putfield 110, 3) := by decide +kernel
theorem dX12_init_296 : decode cX12_init 296 = .ok (.aload_n 0, 1) := by decide +kernel
theorem dX12_init_297 : decode cX12_init 297 = .ok (.sipush 600, 3) := by decide +kernel
theorem dX12_init_300 : decode cX12_init 300 = .ok (.newarray .int, 2) := by decide +kernel
theorem dX12_init_302 : decode cX12_init 302 = .ok (.putfield 113, 3) := by decide +kernel
theorem dX12_init_305 : decode cX12_init 305 = .ok (.aload_n 0, 1) := by decide +kernel
theorem dX12_init_306 : decode cX12_init 306 = .ok (.sipush 600, 3) := by decide +kernel
theorem dX12_init_309 : decode cX12_init 309 = .ok (.newarray .int, 2) := by decide +kernel
theorem dX12_init_311 : decode cX12_init 311 = .ok (.putfield 116, 3) := by decide +kernel
theorem dX12_init_314 : decode cX12_init 314 = .ok (.aload_n 0, 1) := by decide +kernel
theorem dX12_init_315 : decode cX12_init 315 = .ok (.sipush 600, 3) := by decide +kernel
theorem dX12_init_318 : decode cX12_init 318 = .ok (.newarray .int, 2) := by decide +kernel
theorem dX12_init_320 : decode cX12_init 320 = .ok (.putfield 119, 3) := by decide +kernel
theorem dX12_init_323 : decode cX12_init 323 = .ok (.aload_n 0, 1) := by decide +kernel
theorem dX12_init_324 : decode cX12_init 324 = .ok (.sipush 600, 3) := by decide +kernel
theorem dX12_init_327 : decode cX12_init 327 = .ok (.newarray .int, 2) := by decide +kernel
theorem dX12_init_329 : decode cX12_init 329 = .ok (.putfield 122, 3) := by decide +kernel
theorem dX12_init_332 : decode cX12_init 332 = .ok (.aload_n 0, 1) := by decide +kernel
theorem dX12_init_333 : decode cX12_init 333 = .ok (.sipush 600, 3) := by decide +kernel
theorem dX12_init_336 : decode cX12_init 336 = .ok (.newarray .int, 2) := by decide +kernel
theorem dX12_init_338 : decode cX12_init 338 = .ok (.putfield 125, 3) := by decide +kernel
theorem dX12_init_341 : decode cX12_init 341 = .ok (.aload_n 0, 1) := by decide +kernel
theorem dX12_init_342 : decode cX12_init 342 = .ok (.bipush 20, 2) := by decide +kernel
theorem dX12_init_344 : decode cX12_init 344 = .ok (.newarray .int, 2) := by decide +kernel
theorem dX12_init_346 : decode cX12_init 346 = .ok (.putfield 128, 3) := by decide +kernel
theorem dX12_init_349 : decode cX12_init 349 = .ok (.aload_n 0, 1) := by decide +kernel
theorem dX12_init_350 : decode cX12_init 350 = .ok (.bipush 20, 2) := by decide +kernel
theorem dX12_init_352 : decode cX12_init 352 = .ok (.newarray .int, 2) := by decide +kernel
theorem dX12_init_354 : decode cX12_init 354 = .ok (.putfield 131, 3) := by decide +kernel
theorem dX12_init_357 : decode cX12_init 357 = .ok (.aload_n 0, 1) := by decide +kernel
theorem dX12_init_358 : decode cX12_init 358 = .ok (.bipush 80, 2) := by decide +kernel
theorem dX12_init_360 : decode cX12_init 360 = .ok (.newarray .int, 2) := by decide +kernel
theorem dX12_init_362 : decode cX12_init 362 = .ok (.putfield 134, 3) := by decide +kernel
theorem dX12_init_365 : decode cX12_init 365 = .ok (.aload_n 0, 1) := by decide +kernel
theorem dX12_init_366 : decode cX12_init 366 = .ok (.bipush 24, 2) := by decide +kernel
theorem dX12_init_368 : decode cX12_init 368 = .ok (.putfield 137, 3) := by decide +kernel
theorem dX12_init_371 : decode cX12_init 371 = .ok (.aload_n 0, 1) := by decide +kernel
theorem dX12_init_372 : decode cX12_init 372 = .ok (.sipush 1500, 3) := by decide +kernel
theorem dX12_init_375 : decode cX12_init 375 = .ok (.newarray .int, 2) := by decide +kernel
theorem dX12_init_377 : decode cX12_init 377 = .ok (.putfield 141, 3) := by decide +kernel
theorem dX12_init_380 : decode cX12_init 380 = .ok (.aload_n 0, 1) := by decide +kernel
theorem dX12_init_381 : decode cX12_init 381 = .ok (.sipush 1500, 3) := by decide +kernel
theorem dX12_init_384 : decode cX12_init 384 = .ok (.newarray .boolean, 2) := by decide +kernel
theorem dX12_init_386 : decode cX12_init 386 = .ok (.putfield 144, 3) := by decide +kernel
theorem dX12_init_389 : decode cX12_init 389 = .ok (.aload_n 0, 1) := by decide +kernel
theorem dX12_init_390 : decode cX12_init 390 = .ok (.bipush 12, 2) := by decide +kernel
theorem dX12_init_392 : decode cX12_init 392 = .ok (.newarray .int, 2) := by decide +kernel
theorem dX12_init_394 : decode cX12_init 394 = .ok (.putfield 148, 3) := by decide +kernel
theorem dX12_init_397 : decode cX12_init 397 = .ok (.aload_n 0, 1) := by decide +kernel
theorem dX12_init_398 : decode cX12_init 398 = .ok (.bipush 12, 2) := by decide +kernel
theorem dX12_init_400 : decode cX12_init 400 = .ok (.newarray .int, 2) := by decide +kernel
theorem dX12_init_402 : decode cX12_init 402 = .ok (.putfield 151, 3) := by decide +kernel
theorem dX12_init_405 : decode cX12_init 405 = .ok (.aload_n 0, 1) := by decide +kernel
theorem dX12_init_406 : decode cX12_init 406 = .ok (.bipush 36, 2) := by decide +kernel
theorem dX12_init_408 : decode cX12_init 408 = .ok (.newarray .int, 2) := by decide +kernel
theorem dX12_init_410 : decode cX12_init 410 = .ok (.putfield 154, 3) := by decide +kernel
theorem dX12_init_413 : decode cX12_init 413 = .ok (.aload_n 0, 1) := by decide +kernel
theorem dX12_init_414 : decode cX12_init 414 = .ok (.bipush 6, 2) := by decide +kernel
theorem dX12_init_416 : decode cX12_init 416 = .ok (.newarray .int, 2) := by decide +kernel
theorem dX12_init_418 : decode cX12_init 418 = .ok (.putfield 157, 3) := by decide +kernel
theorem dX12_init_421 : decode cX12_init 421 = .ok (.aload_n 0, 1) := by decide +kernel
theorem dX12_init_422 : decode cX12_init 422 = .ok (.bipush 6, 2) := by decide +kernel
theorem dX12_init_424 : decode cX12_init 424 = .ok (.newarray .int, 2) := by decide +kernel
theorem dX12_init_426 : decode cX12_init 426 = .ok (.putfield 160, 3) := by decide +kernel
theorem dX12_init_429 : decode cX12_init 429 = .ok (.aload_n 0, 1) := by decide +kernel
theorem dX12_init_430 : decode cX12_init 430 = .ok (.iconst (-1), 1) := by decide +kernel
theorem dX12_init_431 : decode cX12_init 431 = .ok (.putfield 163, 3) := by decide +kernel
theorem dX12_init_434 : decode cX12_init 434 = .ok (.aload_n 0, 1) := by decide +kernel
theorem dX12_init_435 : decode cX12_init 435 = .ok (.sipush 200, 3) := by decide +kernel
theorem dX12_init_438 : decode cX12_init 438 = .ok (.newarray .boolean, 2) := by decide +kernel
theorem dX12_init_440 : decode cX12_init 440 = .ok (.putfield 166, 3) := by decide +kernel
theorem dX12_init_443 : decode cX12_init 443 = .ok (.aload_n 0, 1) := by decide +kernel
theorem dX12_init_444 : decode cX12_init 444 = .ok (.bipush 12, 2) := by decide +kernel
theorem dX12_init_446 : decode cX12_init 446 = .ok (.newarray .int, 2) := by decide +kernel
theorem dX12_init_448 : decode cX12_init 448 = .ok (.putfield 169, 3) := by decide +kernel
theorem dX12_init_451 : decode cX12_init 451 = .ok (.aload_n 0, 1) := by decide +kernel
theorem dX12_init_452 : decode cX12_init 452 = .ok (.bipush 12, 2) := by decide +kernel
theorem dX12_init_454 : decode cX12_init 454 = .ok (.newarray .int, 2) := by decide +kernel
theorem dX12_init_456 : decode cX12_init 456 = .ok (.putfield 172, 3) := by decide +kernel
theorem dX12_init_459 : decode cX12_init 459 = .ok (.aload_n 0, 1) := by decide +kernel
theorem dX12_init_460 : decode cX12_init 460 = .ok (.bipush 10, 2) := by decide +kernel
theorem dX12_init_462 : decode cX12_init 462 = .ok (.newarray .int, 2) := by decide +kernel
theorem dX12_init_464 : decode cX12_init 464 = .ok (.putfield 175, 3) := by decide +kernel
theorem dX12_init_467 : decode cX12_init 467 = .ok (.aload_n 0, 1) := by decide +kernel
theorem dX12_init_468 : decode cX12_init 468 = .ok (.bipush 10, 2) := by decide +kernel
theorem dX12_init_470 : decode cX12_init 470 = .ok (.newarray .int, 2) := by decide +kernel
theorem dX12_init_472 : decode cX12_init 472 = .ok (.putfield 178, 3) := by decide +kernel
theorem dX12_init_475 : decode cX12_init 475 = .ok (.aload_n 0, 1) := by decide +kernel
theorem dX12_init_476 : decode cX12_init 476 = .ok (.bipush 10, 2) := by decide +kernel
theorem dX12_init_478 : decode cX12_init 478 = .ok (.newarray .int, 2) := by decide +kernel
theorem dX12_init_480 : decode cX12_init 480 = .ok (.putfield 181, 3) := by decide +kernel
theorem dX12_init_483 : decode cX12_init 483 = .ok (.aload_n 0, 1) := by decide +kernel
theorem dX12_init_484 : decode cX12_init 484 = .ok (.sipush 400, 3) := by decide +kernel
theorem dX12_init_487 : decode cX12_init 487 = .ok (.newarray .int, 2) := by decide +kernel
theorem dX12_init_489 : decode cX12_init 489 = .ok (.putfield 184, 3) := by decide +kernel
theorem dX12_init_492 : decode cX12_init 492 = .ok (.aload_n 0, 1) := by decide +kernel
theorem dX12_init_493 : decode cX12_init 493 = .ok (.sipush 400, 3) := by decide +kernel
theorem dX12_init_496 : decode cX12_init 496 = .ok (.newarray .int, 2) := by decide +kernel
theorem dX12_init_498 : decode cX12_init 498 = .ok (.putfield 187, 3) := by decide +kernel
theorem dX12_init_501 : decode cX12_init 501 = .ok (.aload_n 0, 1) := by decide +kernel
theorem dX12_init_502 : decode cX12_init 502 = .ok (.sipush 400, 3) := by decide +kernel
theorem dX12_init_505 : decode cX12_init 505 = .ok (.newarray .int, 2) := by decide +kernel
theorem dX12_init_507 : decode cX12_init 507 = .ok (.putfield 190, 3) := by decide +kernel
theorem dX12_init_510 : decode cX12_init 510 = .ok (.return_, 1) := by decide +kernel
theorem dX12_in_0 : decode cX12_in 0 = .ok (.iload_n 0, 1) := by decide +kernel
theorem dX12_in_1 : decode cX12_in 1 = .ok (.iload_n 1, 1) := by decide +kernel
theorem dX12_in_2 : decode cX12_in 2 = .ok (.if_icmp .lt 12, 3) := by decide +kernel
theorem dX12_in_5 : decode cX12_in 5 = .ok (.iload_n 0, 1) := by decide +kernel
theorem dX12_in_6 : decode cX12_in 6 = .ok (.iload_n 2, 1) := by decide +kernel
theorem dX12_in_7 : decode cX12_in 7 = .ok (.if_icmp .gt 7, 3) := by decide +kernel
theorem dX12_in_10 : decode cX12_in 10 = .ok (.iconst 1, 1) := by decide +kernel
theorem dX12_in_11 : decode cX12_in 11 = .ok (.goto 4, 3) := by decide +kernel
theorem dX12_in_14 : decode cX12_in 14 = .ok (.iconst 0, 1) := by decide +kernel
theorem dX12_in_15 : decode cX12_in 15 = .ok (.ireturn, 1) := by decide +kernel
theorem dX12_isDay_0 : decode cX12_isDay 0 = .ok (.iload_n 0, 1) := by decide +kernel
theorem dX12_isDay_1 : decode cX12_isDay 1 = .ok (.iconst 0, 1) := by decide +kernel
theorem dX12_isDay_2 : decode cX12_isDay 2 = .ok (.sipush 1499, 3) := by decide +kernel
theorem dX12_isDay_5 : decode cX12_isDay 5 = .ok (.invokestatic 196, 3) := by decide +kernel
theorem dX12_isDay_8 : decode cX12_isDay 8 = .ok (.ireturn, 1) := by decide +kernel
theorem dX12_today_0 : decode cX12_today 0 = .ok (.aload_n 0, 1) := by decide +kernel
theorem dX12_today_1 : decode cX12_today 1 = .ok (.getfield 200, 3) := by decide +kernel
theorem dX12_today_4 : decode cX12_today 4 = .ok (.bipush 24, 2) := by decide +kernel
theorem dX12_today_6 : decode cX12_today 6 = .ok (.idiv, 1) := by decide +kernel
theorem dX12_today_7 : decode cX12_today 7 = .ok (.ireturn, 1) := by decide +kernel
theorem dX12_hourNow_0 : decode cX12_hourNow 0 = .ok (.aload_n 0, 1) := by decide +kernel
theorem dX12_hourNow_1 : decode cX12_hourNow 1 = .ok (.getfield 200, 3) := by decide +kernel
theorem dX12_hourNow_4 : decode cX12_hourNow 4 = .ok (.bipush 24, 2) := by decide +kernel
theorem dX12_hourNow_6 : decode cX12_hourNow 6 = .ok (.irem, 1) := by decide +kernel
theorem dX12_hourNow_7 : decode cX12_hourNow 7 = .ok (.ireturn, 1) := by decide +kernel
theorem dX12_isShop_0 : decode cX12_isShop 0 = .ok (.iload_n 1, 1) := by decide +kernel
theorem dX12_isShop_1 : decode cX12_isShop 1 = .ok (.iconst 0, 1) := by decide +kernel
theorem dX12_isShop_2 : decode cX12_isShop 2 = .ok (.aload_n 0, 1) := by decide +kernel
theorem dX12_isShop_3 : decode cX12_isShop 3 = .ok (.getfield 203, 3) := by decide +kernel
theorem dX12_isShop_6 : decode cX12_isShop 6 = .ok (.iconst 1, 1) := by decide +kernel
theorem dX12_isShop_7 : decode cX12_isShop 7 = .ok (.isub, 1) := by decide +kernel
theorem dX12_isShop_8 : decode cX12_isShop 8 = .ok (.invokestatic 196, 3) := by decide +kernel
theorem dX12_isShop_11 : decode cX12_isShop 11 = .ok (.ireturn, 1) := by decide +kernel
theorem dX12_isKind_0 : decode cX12_isKind 0 = .ok (.iload_n 1, 1) := by decide +kernel
theorem dX12_isKind_1 : decode cX12_isKind 1 = .ok (.iconst 0, 1) := by decide +kernel
theorem dX12_isKind_2 : decode cX12_isKind 2 = .ok (.aload_n 0, 1) := by decide +kernel
theorem dX12_isKind_3 : decode cX12_isKind 3 = .ok (.getfield 206, 3) := by decide +kernel
theorem dX12_isKind_6 : decode cX12_isKind 6 = .ok (.iconst 1, 1) := by decide +kernel
theorem dX12_isKind_7 : decode cX12_isKind 7 = .ok (.isub, 1) := by decide +kernel
theorem dX12_isKind_8 : decode cX12_isKind 8 = .ok (.invokestatic 196, 3) := by decide +kernel
theorem dX12_isKind_11 : decode cX12_isKind 11 = .ok (.ireturn, 1) := by decide +kernel
theorem dX12_areBoth_0 : decode cX12_areBoth 0 = .ok (.aload_n 0, 1) := by decide +kernel
theorem dX12_areBoth_1 : decode cX12_areBoth 1 = .ok (.iload_n 1, 1) := by decide +kernel
theorem dX12_areBoth_2 : decode cX12_areBoth 2 = .ok (.invokevirtual 209, 3) := by decide +kernel
theorem dX12_areBoth_5 : decode cX12_areBoth 5 = .ok (.ifCond .eq 15, 3) := by decide +kernel
theorem dX12_areBoth_8 : decode cX12_areBoth 8 = .ok (.aload_n 0, 1) := by decide +kernel
theorem dX12_areBoth_9 : decode cX12_areBoth 9 = .ok (.iload_n 2, 1) := by decide +kernel
theorem dX12_areBoth_10 : decode cX12_areBoth 10 = .ok (.invokevirtual 213, 3) := by decide +kernel
theorem dX12_areBoth_13 : decode cX12_areBoth 13 = .ok (.ifCond .eq 7, 3) := by decide +kernel
theorem dX12_areBoth_16 : decode cX12_areBoth 16 = .ok (.iconst 1, 1) := by decide +kernel
theorem dX12_areBoth_17 : decode cX12_areBoth 17 = .ok (.goto 4, 3) := by decide +kernel
theorem dX12_areBoth_20 : decode cX12_areBoth 20 = .ok (.iconst 0, 1) := by decide +kernel
theorem dX12_areBoth_21 : decode cX12_areBoth 21 = .ok (.ireturn, 1) := by decide +kernel
theorem dX12_shop_0 : decode cX12_shop 0 = .ok (.iload_n 1, 1) := by decide +kernel
theorem dX12_shop_1 : decode cX12_shop 1 = .ok (.iconst 0, 1) := by decide +kernel
theorem dX12_shop_2 : decode cX12_shop 2 = .ok (.sipush 9999, 3) := by decide +kernel
theorem dX12_shop_5 : decode cX12_shop 5 = .ok (.invokestatic 196, 3) := by decide +kernel
theorem dX12_shop_8 : decode cX12_shop 8 = .ok (.ifCond .ne 5, 3) := by decide +kernel
theorem dX12_shop_11 : decode cX12_shop 11 = .ok (.iconst (-1), 1) := by decide +kernel
theorem dX12_shop_12 : decode cX12_shop 12 = .ok (.ireturn, 1) := by decide +kernel
theorem dX12_shop_13 : decode cX12_shop 13 = .ok (.aload_n 0, 1) := by decide +kernel
theorem dX12_shop_14 : decode cX12_shop 14 = .ok (.getfield 203, 3) := by decide +kernel
theorem dX12_shop_17 : decode cX12_shop 17 = .ok (.bipush 12, 2) := by decide +kernel
theorem dX12_shop_19 : decode cX12_shop 19 = .ok (.if_icmp .ne 6, 3) := by decide +kernel
theorem dX12_shop_22 : decode cX12_shop 22 = .ok (.bipush (-3), 2) := by decide +kernel
theorem dX12_shop_24 : decode cX12_shop 24 = .ok (.ireturn, 1) := by decide +kernel
theorem dX12_shop_25 : decode cX12_shop 25 = .ok (.aload_n 0, 1) := by decide +kernel
theorem dX12_shop_26 : decode cX12_shop 26 = .ok (.getfield 7, 3) := by decide +kernel
theorem dX12_shop_29 : decode cX12_shop 29 = .ok (.aload_n 0, 1) := by decide +kernel
theorem dX12_shop_30 : decode cX12_shop 30 = .ok (.getfield 203, 3) := by decide +kernel
theorem dX12_shop_33 : decode cX12_shop 33 = .ok (.iload_n 1, 1) := by decide +kernel
theorem dX12_shop_34 : decode cX12_shop 34 = .ok (.bipush 100, 2) := by decide +kernel
theorem dX12_shop_36 : decode cX12_shop 36 = .ok (.idiv, 1) := by decide +kernel
theorem dX12_shop_37 : decode cX12_shop 37 = .ok (.iastore, 1) := by decide +kernel
theorem dX12_shop_38 : decode cX12_shop 38 = .ok (.aload_n 0, 1) := by decide +kernel
theorem dX12_shop_39 : decode cX12_shop 39 = .ok (.getfield 13, 3) := by decide +kernel
theorem dX12_shop_42 : decode cX12_shop 42 = .ok (.aload_n 0, 1) := by decide +kernel
theorem dX12_shop_43 : decode cX12_shop 43 = .ok (.getfield 203, 3) := by decide +kernel
theorem dX12_shop_46 : decode cX12_shop 46 = .ok (.iload_n 1, 1) := by decide +kernel
theorem dX12_shop_47 : decode cX12_shop 47 = .ok (.bipush 100, 2) := by decide +kernel
theorem dX12_shop_49 : decode cX12_shop 49 = .ok (.irem, 1) := by decide +kernel
theorem dX12_shop_50 : decode cX12_shop 50 = .ok (.iastore, 1) := by decide +kernel
theorem dX12_shop_51 : decode cX12_shop 51 = .ok (.aload_n 0, 1) := by decide +kernel
theorem dX12_shop_52 : decode cX12_shop 52 = .ok (.getfield 169, 3) := by decide +kernel
theorem dX12_shop_55 : decode cX12_shop 55 = .ok (.aload_n 0, 1) := by decide +kernel
theorem dX12_shop_56 : decode cX12_shop 56 = .ok (.getfield 203, 3) := by decide +kernel
theorem dX12_shop_59 : decode cX12_shop 59 = .ok (.iconst (-1), 1) := by decide +kernel
theorem dX12_shop_60 : decode cX12_shop 60 = .ok (.iastore, 1) := by decide +kernel
theorem dX12_shop_61 : decode cX12_shop 61 = .ok (.aload_n 0, 1) := by decide +kernel
theorem dX12_shop_62 : decode cX12_shop 62 = .ok (.dup, 1) := by decide +kernel
theorem dX12_shop_63 : decode cX12_shop 63 = .ok (.getfield 203, 3) := by decide +kernel
theorem dX12_shop_66 : decode cX12_shop 66 = .ok (.iconst 1, 1) := by decide +kernel
theorem dX12_shop_67 : decode cX12_shop 67 = .ok (.iadd, 1) := by decide +kernel
theorem dX12_shop_68 : decode cX12_shop 68 = .ok (.putfield 203, 3) := by decide +kernel
theorem dX12_shop_71 : decode cX12_shop 71 = .ok (.aload_n 0, 1) := by decide +kernel
theorem dX12_shop_72 : decode cX12_shop 72 = .ok (.getfield 203, 3) := by decide +kernel
theorem dX12_shop_75 : decode cX12_shop 75 = .ok (.iconst 1, 1) := by decide +kernel
theorem dX12_shop_76 : decode cX12_shop 76 = .ok (.isub, 1) := by decide +kernel
theorem dX12_shop_77 : decode cX12_shop 77 = .ok (.ireturn, 1) := by decide +kernel
theorem dX12_kind_0 : decode cX12_kind 0 = .ok (.iload_n 1, 1) := by decide +kernel
theorem dX12_kind_1 : decode cX12_kind 1 = .ok (.iconst 1, 1) := by decide +kernel
theorem dX12_kind_2 : decode cX12_kind 2 = .ok (.sipush 9999, 3) := by decide +kernel
theorem dX12_kind_5 : decode cX12_kind 5 = .ok (.invokestatic 196, 3) := by decide +kernel
theorem dX12_kind_8 : decode cX12_kind 8 = .ok (.ifCond .eq 35, 3) := by decide +kernel
theorem dX12_kind_11 : decode cX12_kind 11 = .ok (.iload_n 2, 1) := by decide +kernel
theorem dX12_kind_12 : decode cX12_kind 12 = .ok (.iconst 0, 1) := by decide +kernel
theorem dX12_kind_13 : decode cX12_kind 13 = .ok (.sipush 9999, 3) := by decide +kernel
theorem dX12_kind_16 : decode cX12_kind 16 = .ok (.invokestatic 196, 3) := by decide +kernel
theorem dX12_kind_19 : decode cX12_kind 19 = .ok (.ifCond .eq 24, 3) := by decide +kernel
theorem dX12_kind_22 : decode cX12_kind 22 = .ok (.iload_n 3, 1) := by decide +kernel
theorem dX12_kind_23 : decode cX12_kind 23 = .ok (.iconst 1, 1) := by decide +kernel
theorem dX12_kind_24 : decode cX12_kind 24 = .ok (.sipush 9999, 3) := by decide +kernel
theorem dX12_kind_27 : decode cX12_kind 27 = .ok (.invokestatic 196, 3) := by decide +kernel
theorem dX12_kind_30 : decode cX12_kind 30 = .ok (.ifCond .eq 13, 3) := by decide +kernel
theorem dX12_kind_33 : decode cX12_kind 33 = .ok (.iload 4, 2) := by decide +kernel
theorem dX12_kind_35 : decode cX12_kind 35 = .ok (.iconst 0, 1) := by decide +kernel
theorem dX12_kind_36 : decode cX12_kind 36 = .ok (.iconst 1, 1) := by decide +kernel
theorem dX12_kind_37 : decode cX12_kind 37 = .ok (.invokestatic 196, 3) := by decide +kernel
theorem dX12_kind_40 : decode cX12_kind 40 = .ok (.ifCond .ne 5, 3) := by decide +kernel
theorem dX12_kind_43 : decode cX12_kind 43 = .ok (.iconst (-1), 1) := by decide +kernel
theorem dX12_kind_44 : decode cX12_kind 44 = .ok (.ireturn, 1) := by decide +kernel
theorem dX12_kind_45 : decode cX12_kind 45 = .ok (.aload_n 0, 1) := by decide +kernel
theorem dX12_kind_46 : decode cX12_kind 46 = .ok (.getfield 206, 3) := by decide +kernel
theorem dX12_kind_49 : decode cX12_kind 49 = .ok (.bipush 10, 2) := by decide +kernel
theorem dX12_kind_51 : decode cX12_kind 51 = .ok (.if_icmp .ne 6, 3) := by decide +kernel
theorem dX12_kind_54 : decode cX12_kind 54 = .ok (.bipush (-3), 2) := by decide +kernel
theorem dX12_kind_56 : decode cX12_kind 56 = .ok (.ireturn, 1) := by decide +kernel
theorem dX12_kind_57 : decode cX12_kind 57 = .ok (.aload_n 0, 1) := by decide +kernel
theorem dX12_kind_58 : decode cX12_kind 58 = .ok (.getfield 19, 3) := by decide +kernel
theorem dX12_kind_61 : decode cX12_kind 61 = .ok (.aload_n 0, 1) := by decide +kernel
theorem dX12_kind_62 : decode cX12_kind 62 = .ok (.getfield 206, 3) := by decide +kernel
theorem dX12_kind_65 : decode cX12_kind 65 = .ok (.iload_n 1, 1) := by decide +kernel
theorem dX12_kind_66 : decode cX12_kind 66 = .ok (.iastore, 1) := by decide +kernel
theorem dX12_kind_67 : decode cX12_kind 67 = .ok (.aload_n 0, 1) := by decide +kernel
theorem dX12_kind_68 : decode cX12_kind 68 = .ok (.getfield 22, 3) := by decide +kernel
theorem dX12_kind_71 : decode cX12_kind 71 = .ok (.aload_n 0, 1) := by decide +kernel
theorem dX12_kind_72 : decode cX12_kind 72 = .ok (.getfield 206, 3) := by decide +kernel
theorem dX12_kind_75 : decode cX12_kind 75 = .ok (.iload_n 2, 1) := by decide +kernel
theorem dX12_kind_76 : decode cX12_kind 76 = .ok (.iastore, 1) := by decide +kernel
theorem dX12_kind_77 : decode cX12_kind 77 = .ok (.aload_n 0, 1) := by decide +kernel
theorem dX12_kind_78 : decode cX12_kind 78 = .ok (.getfield 25, 3) := by decide +kernel
theorem dX12_kind_81 : decode cX12_kind 81 = .ok (.aload_n 0, 1) := by decide +kernel
theorem dX12_kind_82 : decode cX12_kind 82 = .ok (.getfield 206, 3) := by decide +kernel
theorem dX12_kind_85 : decode cX12_kind 85 = .ok (.iload_n 3, 1) := by decide +kernel
theorem dX12_kind_86 : decode cX12_kind 86 = .ok (.iastore, 1) := by decide +kernel
theorem dX12_kind_87 : decode cX12_kind 87 = .ok (.aload_n 0, 1) := by decide +kernel
theorem dX12_kind_88 : decode cX12_kind 88 = .ok (.getfield 28, 3) := by decide +kernel
theorem dX12_kind_91 : decode cX12_kind 91 = .ok (.aload_n 0, 1) := by decide +kernel
theorem dX12_kind_92 : decode cX12_kind 92 = .ok (.getfield 206, 3) := by decide +kernel
theorem dX12_kind_95 : decode cX12_kind 95 = .ok (.iload 4, 2) := by decide +kernel
theorem dX12_kind_97 : decode cX12_kind 97 = .ok (.iastore, 1) := by decide +kernel
theorem dX12_kind_98 : decode cX12_kind 98 = .ok (.aload_n 0, 1) := by decide +kernel
theorem dX12_kind_99 : decode cX12_kind 99 = .ok (.dup, 1) := by decide +kernel
theorem dX12_kind_100 : decode cX12_kind 100 = .ok (.getfield 206, 3) := by decide +kernel
theorem dX12_kind_103 : decode cX12_kind 103 = .ok (.iconst 1, 1) := by decide +kernel
theorem dX12_kind_104 : decode cX12_kind 104 = .ok (.iadd, 1) := by decide +kernel
theorem dX12_kind_105 : decode cX12_kind 105 = .ok (.putfield 206, 3) := by decide +kernel
theorem dX12_kind_108 : decode cX12_kind 108 = .ok (.aload_n 0, 1) := by decide +kernel
theorem dX12_kind_109 : decode cX12_kind 109 = .ok (.getfield 206, 3) := by decide +kernel
theorem dX12_kind_112 : decode cX12_kind 112 = .ok (.iconst 1, 1) := by decide +kernel
theorem dX12_kind_113 : decode cX12_kind 113 = .ok (.isub, 1) := by decide +kernel
theorem dX12_kind_114 : decode cX12_kind 114 = .ok (.ireturn, 1) := by decide +kernel
theorem dX12_priceBy_0 : decode cX12_priceBy 0 = .ok (.aload_n 0, 1) := by decide +kernel
theorem dX12_priceBy_1 : decode cX12_priceBy 1 = .ok (.getfield 19, 3) := by decide +kernel
theorem dX12_priceBy_4 : decode cX12_priceBy 4 = .ok (.iload_n 1, 1) := by decide +kernel
theorem dX12_priceBy_5 : decode cX12_priceBy 5 = .ok (.iaload, 1) := by decide +kernel
theorem dX12_priceBy_6 : decode cX12_priceBy 6 = .ok (.bipush 100, 2) := by decide +kernel
theorem dX12_priceBy_8 : decode cX12_priceBy 8 = .ok (.bipush 25, 2) := by decide +kernel
theorem dX12_priceBy_10 : decode cX12_priceBy 10 = .ok (.iload_n 2, 1) := by decide +kernel
theorem dX12_priceBy_11 : decode cX12_priceBy 11 = .ok (.imul, 1) := by decide +kernel
theorem dX12_priceBy_12 : decode cX12_priceBy 12 = .ok (.isub, 1) := by decide +kernel
theorem dX12_priceBy_13 : decode cX12_priceBy 13 = .ok (.imul, 1) := by decide +kernel
theorem dX12_priceBy_14 : decode cX12_priceBy 14 = .ok (.bipush 100, 2) := by decide +kernel
theorem dX12_priceBy_16 : decode cX12_priceBy 16 = .ok (.idiv, 1) := by decide +kernel
theorem dX12_priceBy_17 : decode cX12_priceBy 17 = .ok (.ireturn, 1) := by decide +kernel
theorem dX12_priceAt_0 : decode cX12_priceAt 0 = .ok (.aload_n 0, 1) := by decide +kernel
theorem dX12_priceAt_1 : decode cX12_priceAt 1 = .ok (.iload_n 1, 1) := by decide +kernel
theorem dX12_priceAt_2 : decode cX12_priceAt 2 = .ok (.invokevirtual 213, 3) := by decide +kernel
theorem dX12_priceAt_5 : decode cX12_priceAt 5 = .ok (.ifCond .eq 21, 3) := by decide +kernel
theorem dX12_priceAt_8 : decode cX12_priceAt 8 = .ok (.iload_n 2, 1) := by decide +kernel
theorem dX12_priceAt_9 : decode cX12_priceAt 9 = .ok (.iconst 0, 1) := by decide +kernel
theorem dX12_priceAt_10 : decode cX12_priceAt 10 = .ok (.iconst 3, 1) := by decide +kernel
theorem dX12_priceAt_11 : decode cX12_priceAt 11 = .ok (.invokestatic 196, 3) := by decide +kernel
theorem dX12_priceAt_14 : decode cX12_priceAt 14 = .ok (.ifCond .eq 12, 3) := by decide +kernel
theorem dX12_priceAt_17 : decode cX12_priceAt 17 = .ok (.aload_n 0, 1) := by decide +kernel
theorem dX12_priceAt_18 : decode cX12_priceAt 18 = .ok (.iload_n 1, 1) := by decide +kernel
theorem dX12_priceAt_19 : decode cX12_priceAt 19 = .ok (.iload_n 2, 1) := by decide +kernel
theorem dX12_priceAt_20 : decode cX12_priceAt 20 = .ok (.invokevirtual 216, 3) := by decide +kernel
theorem dX12_priceAt_23 : decode cX12_priceAt 23 = .ok (.goto 4, 3) := by decide +kernel
theorem dX12_priceAt_26 : decode cX12_priceAt 26 = .ok (.iconst (-1), 1) := by decide +kernel
theorem dX12_priceAt_27 : decode cX12_priceAt 27 = .ok (.ireturn, 1) := by decide +kernel
theorem dX12_throwing_0 : decode cX12_throwing 0 = .ok (.aload_n 0, 1) := by decide +kernel
theorem dX12_throwing_1 : decode cX12_throwing 1 = .ok (.iload_n 1, 1) := by decide +kernel
theorem dX12_throwing_2 : decode cX12_throwing 2 = .ok (.invokevirtual 213, 3) := by decide +kernel
theorem dX12_throwing_5 : decode cX12_throwing 5 = .ok (.ifCond .eq 14, 3) := by decide +kernel
theorem dX12_throwing_8 : decode cX12_throwing 8 = .ok (.iload_n 2, 1) := by decide +kernel
theorem dX12_throwing_9 : decode cX12_throwing 9 = .ok (.iconst 0, 1) := by decide +kernel
theorem dX12_throwing_10 : decode cX12_throwing 10 = .ok (.sipush 9999, 3) := by decide +kernel
theorem dX12_throwing_13 : decode cX12_throwing 13 = .ok (.invokestatic 196, 3) := by decide +kernel
theorem dX12_throwing_16 : decode cX12_throwing 16 = .ok (.ifCond .ne 5, 3) := by decide +kernel
theorem dX12_throwing_19 : decode cX12_throwing 19 = .ok (.iconst (-1), 1) := by decide +kernel
theorem dX12_throwing_20 : decode cX12_throwing 20 = .ok (.ireturn, 1) := by decide +kernel
theorem dX12_throwing_21 : decode cX12_throwing 21 = .ok (.aload_n 0, 1) := by decide +kernel
theorem dX12_throwing_22 : decode cX12_throwing 22 = .ok (.getfield 31, 3) := by decide +kernel
theorem dX12_throwing_25 : decode cX12_throwing 25 = .ok (.iload_n 1, 1) := by decide +kernel
theorem dX12_throwing_26 : decode cX12_throwing 26 = .ok (.iaload, 1) := by decide +kernel
theorem dX12_throwing_27 : decode cX12_throwing 27 = .ok (.istore_n 3, 1) := by decide +kernel
theorem dX12_throwing_28 : decode cX12_throwing 28 = .ok (.aload_n 0, 1) := by decide +kernel
theorem dX12_throwing_29 : decode cX12_throwing 29 = .ok (.getfield 31, 3) := by decide +kernel
theorem dX12_throwing_32 : decode cX12_throwing 32 = .ok (.iload_n 1, 1) := by decide +kernel
theorem dX12_throwing_33 : decode cX12_throwing 33 = .ok (.iload_n 2, 1) := by decide +kernel
theorem dX12_throwing_34 : decode cX12_throwing 34 = .ok (.iastore, 1) := by decide +kernel
theorem dX12_throwing_35 : decode cX12_throwing 35 = .ok (.iload_n 3, 1) := by decide +kernel
theorem dX12_throwing_36 : decode cX12_throwing 36 = .ok (.ireturn, 1) := by decide +kernel
theorem dX12_weather_0 : decode cX12_weather 0 = .ok (.iload_n 1, 1) := by decide +kernel
theorem dX12_weather_1 : decode cX12_weather 1 = .ok (.invokestatic 220, 3) := by decide +kernel
theorem dX12_weather_4 : decode cX12_weather 4 = .ok (.ifCond .eq 12, 3) := by decide +kernel
theorem dX12_weather_7 : decode cX12_weather 7 = .ok (.iload_n 2, 1) := by decide +kernel
theorem dX12_weather_8 : decode cX12_weather 8 = .ok (.iconst 0, 1) := by decide +kernel
theorem dX12_weather_9 : decode cX12_weather 9 = .ok (.iconst 2, 1) := by decide +kernel
theorem dX12_weather_10 : decode cX12_weather 10 = .ok (.invokestatic 196, 3) := by decide +kernel
theorem dX12_weather_13 : decode cX12_weather 13 = .ok (.ifCond .ne 5, 3) := by decide +kernel
theorem dX12_weather_16 : decode cX12_weather 16 = .ok (.iconst (-1), 1) := by decide +kernel
theorem dX12_weather_17 : decode cX12_weather 17 = .ok (.ireturn, 1) := by decide +kernel
theorem dX12_weather_18 : decode cX12_weather 18 = .ok (.aload_n 0, 1) := by decide +kernel
theorem dX12_weather_19 : decode cX12_weather 19 = .ok (.getfield 34, 3) := by decide +kernel
theorem dX12_weather_22 : decode cX12_weather 22 = .ok (.iload_n 1, 1) := by decide +kernel
theorem dX12_weather_23 : decode cX12_weather 23 = .ok (.iaload, 1) := by decide +kernel
theorem dX12_weather_24 : decode cX12_weather 24 = .ok (.istore_n 3, 1) := by decide +kernel
theorem dX12_weather_25 : decode cX12_weather 25 = .ok (.aload_n 0, 1) := by decide +kernel
theorem dX12_weather_26 : decode cX12_weather 26 = .ok (.getfield 34, 3) := by decide +kernel
theorem dX12_weather_29 : decode cX12_weather 29 = .ok (.iload_n 1, 1) := by decide +kernel
theorem dX12_weather_30 : decode cX12_weather 30 = .ok (.iload_n 2, 1) := by decide +kernel
theorem dX12_weather_31 : decode cX12_weather 31 = .ok (.iastore, 1) := by decide +kernel
theorem dX12_weather_32 : decode cX12_weather 32 = .ok (.iload_n 3, 1) := by decide +kernel
theorem dX12_weather_33 : decode cX12_weather 33 = .ok (.ireturn, 1) := by decide +kernel
theorem dX12_cut_0 : decode cX12_cut 0 = .ok (.aload_n 0, 1) := by decide +kernel
theorem dX12_cut_1 : decode cX12_cut 1 = .ok (.iload_n 1, 1) := by decide +kernel
theorem dX12_cut_2 : decode cX12_cut 2 = .ok (.iload_n 2, 1) := by decide +kernel
theorem dX12_cut_3 : decode cX12_cut 3 = .ok (.invokevirtual 223, 3) := by decide +kernel
theorem dX12_cut_6 : decode cX12_cut 6 = .ok (.ifCond .eq 12, 3) := by decide +kernel
theorem dX12_cut_9 : decode cX12_cut 9 = .ok (.iload_n 3, 1) := by decide +kernel
theorem dX12_cut_10 : decode cX12_cut 10 = .ok (.iconst 0, 1) := by decide +kernel
theorem dX12_cut_11 : decode cX12_cut 11 = .ok (.iconst 3, 1) := by decide +kernel
theorem dX12_cut_12 : decode cX12_cut 12 = .ok (.invokestatic 196, 3) := by decide +kernel
theorem dX12_cut_15 : decode cX12_cut 15 = .ok (.ifCond .ne 5, 3) := by decide +kernel
theorem dX12_cut_18 : decode cX12_cut 18 = .ok (.iconst (-1), 1) := by decide +kernel
theorem dX12_cut_19 : decode cX12_cut 19 = .ok (.ireturn, 1) := by decide +kernel
theorem dX12_cut_20 : decode cX12_cut 20 = .ok (.aload_n 0, 1) := by decide +kernel
theorem dX12_cut_21 : decode cX12_cut 21 = .ok (.getfield 37, 3) := by decide +kernel
theorem dX12_cut_24 : decode cX12_cut 24 = .ok (.bipush 10, 2) := by decide +kernel
theorem dX12_cut_26 : decode cX12_cut 26 = .ok (.iload_n 1, 1) := by decide +kernel
theorem dX12_cut_27 : decode cX12_cut 27 = .ok (.imul, 1) := by decide +kernel
theorem dX12_cut_28 : decode cX12_cut 28 = .ok (.iload_n 2, 1) := by decide +kernel
theorem dX12_cut_29 : decode cX12_cut 29 = .ok (.iadd, 1) := by decide +kernel
theorem dX12_cut_30 : decode cX12_cut 30 = .ok (.iaload, 1) := by decide +kernel
theorem dX12_cut_31 : decode cX12_cut 31 = .ok (.istore 4, 2) := by decide +kernel
theorem dX12_cut_33 : decode cX12_cut 33 = .ok (.iload_n 3, 1) := by decide +kernel
theorem dX12_cut_34 : decode cX12_cut 34 = .ok (.iload 4, 2) := by decide +kernel
theorem dX12_cut_36 : decode cX12_cut 36 = .ok (.if_icmp .gt 6, 3) := by decide +kernel
theorem dX12_cut_39 : decode cX12_cut 39 = .ok (.bipush (-2), 2) := by decide +kernel
theorem dX12_cut_41 : decode cX12_cut 41 = .ok (.ireturn, 1) := by decide +kernel
theorem dX12_cut_42 : decode cX12_cut 42 = .ok (.aload_n 0, 1) := by decide +kernel
theorem dX12_cut_43 : decode cX12_cut 43 = .ok (.getfield 37, 3) := by decide +kernel
theorem dX12_cut_46 : decode cX12_cut 46 = .ok (.bipush 10, 2) := by decide +kernel
theorem dX12_cut_48 : decode cX12_cut 48 = .ok (.iload_n 1, 1) := by decide +kernel
theorem dX12_cut_49 : decode cX12_cut 49 = .ok (.imul, 1) := by decide +kernel
theorem dX12_cut_50 : decode cX12_cut 50 = .ok (.iload_n 2, 1) := by decide +kernel
theorem dX12_cut_51 : decode cX12_cut 51 = .ok (.iadd, 1) := by decide +kernel
theorem dX12_cut_52 : decode cX12_cut 52 = .ok (.iload_n 3, 1) := by decide +kernel
theorem dX12_cut_53 : decode cX12_cut 53 = .ok (.iastore, 1) := by decide +kernel
theorem dX12_cut_54 : decode cX12_cut 54 = .ok (.iload 4, 2) := by decide +kernel
theorem dX12_cut_56 : decode cX12_cut 56 = .ok (.ireturn, 1) := by decide +kernel
theorem dX12_step_0 : decode cX12_step 0 = .ok (.aload_n 0, 1) := by decide +kernel
theorem dX12_step_1 : decode cX12_step 1 = .ok (.iload_n 1, 1) := by decide +kernel
theorem dX12_step_2 : decode cX12_step 2 = .ok (.iload_n 2, 1) := by decide +kernel
theorem dX12_step_3 : decode cX12_step 3 = .ok (.invokevirtual 223, 3) := by decide +kernel
theorem dX12_step_6 : decode cX12_step 6 = .ok (.ifCond .eq 17, 3) := by decide +kernel
theorem dX12_step_9 : decode cX12_step 9 = .ok (.aload_n 0, 1) := by decide +kernel
theorem dX12_step_10 : decode cX12_step 10 = .ok (.getfield 37, 3) := by decide +kernel
theorem dX12_step_13 : decode cX12_step 13 = .ok (.bipush 10, 2) := by decide +kernel
theorem dX12_step_15 : decode cX12_step 15 = .ok (.iload_n 1, 1) := by decide +kernel
theorem dX12_step_16 : decode cX12_step 16 = .ok (.imul, 1) := by decide +kernel
theorem dX12_step_17 : decode cX12_step 17 = .ok (.iload_n 2, 1) := by decide +kernel
theorem dX12_step_18 : decode cX12_step 18 = .ok (.iadd, 1) := by decide +kernel
theorem dX12_step_19 : decode cX12_step 19 = .ok (.iaload, 1) := by decide +kernel
theorem dX12_step_20 : decode cX12_step 20 = .ok (.goto 4, 3) := by decide +kernel
theorem dX12_step_23 : decode cX12_step 23 = .ok (.iconst (-1), 1) := by decide +kernel
theorem dX12_step_24 : decode cX12_step 24 = .ok (.ireturn, 1) := by decide +kernel
theorem dX12_warm_0 : decode cX12_warm 0 = .ok (.aload_n 0, 1) := by decide +kernel
theorem dX12_warm_1 : decode cX12_warm 1 = .ok (.iload_n 1, 1) := by decide +kernel
theorem dX12_warm_2 : decode cX12_warm 2 = .ok (.iload_n 2, 1) := by decide +kernel
theorem dX12_warm_3 : decode cX12_warm 3 = .ok (.invokevirtual 223, 3) := by decide +kernel
theorem dX12_warm_6 : decode cX12_warm 6 = .ok (.ifCond .eq 13, 3) := by decide +kernel
theorem dX12_warm_9 : decode cX12_warm 9 = .ok (.iload_n 3, 1) := by decide +kernel
theorem dX12_warm_10 : decode cX12_warm 10 = .ok (.iconst 0, 1) := by decide +kernel
theorem dX12_warm_11 : decode cX12_warm 11 = .ok (.bipush 24, 2) := by decide +kernel
theorem dX12_warm_13 : decode cX12_warm 13 = .ok (.invokestatic 196, 3) := by decide +kernel
theorem dX12_warm_16 : decode cX12_warm 16 = .ok (.ifCond .ne 5, 3) := by decide +kernel
theorem dX12_warm_19 : decode cX12_warm 19 = .ok (.iconst (-1), 1) := by decide +kernel
theorem dX12_warm_20 : decode cX12_warm 20 = .ok (.ireturn, 1) := by decide +kernel
theorem dX12_warm_21 : decode cX12_warm 21 = .ok (.aload_n 0, 1) := by decide +kernel
theorem dX12_warm_22 : decode cX12_warm 22 = .ok (.getfield 40, 3) := by decide +kernel
theorem dX12_warm_25 : decode cX12_warm 25 = .ok (.bipush 10, 2) := by decide +kernel
theorem dX12_warm_27 : decode cX12_warm 27 = .ok (.iload_n 1, 1) := by decide +kernel
theorem dX12_warm_28 : decode cX12_warm 28 = .ok (.imul, 1) := by decide +kernel
theorem dX12_warm_29 : decode cX12_warm 29 = .ok (.iload_n 2, 1) := by decide +kernel
theorem dX12_warm_30 : decode cX12_warm 30 = .ok (.iadd, 1) := by decide +kernel
theorem dX12_warm_31 : decode cX12_warm 31 = .ok (.iaload, 1) := by decide +kernel
theorem dX12_warm_32 : decode cX12_warm 32 = .ok (.istore 4, 2) := by decide +kernel
theorem dX12_warm_34 : decode cX12_warm 34 = .ok (.aload_n 0, 1) := by decide +kernel
theorem dX12_warm_35 : decode cX12_warm 35 = .ok (.getfield 40, 3) := by decide +kernel
theorem dX12_warm_38 : decode cX12_warm 38 = .ok (.bipush 10, 2) := by decide +kernel
theorem dX12_warm_40 : decode cX12_warm 40 = .ok (.iload_n 1, 1) := by decide +kernel
theorem dX12_warm_41 : decode cX12_warm 41 = .ok (.imul, 1) := by decide +kernel
theorem dX12_warm_42 : decode cX12_warm 42 = .ok (.iload_n 2, 1) := by decide +kernel
theorem dX12_warm_43 : decode cX12_warm 43 = .ok (.iadd, 1) := by decide +kernel
theorem dX12_warm_44 : decode cX12_warm 44 = .ok (.iload_n 3, 1) := by decide +kernel
theorem dX12_warm_45 : decode cX12_warm 45 = .ok (.iastore, 1) := by decide +kernel
theorem dX12_warm_46 : decode cX12_warm 46 = .ok (.iload 4, 2) := by decide +kernel
theorem dX12_warm_48 : decode cX12_warm 48 = .ok (.ireturn, 1) := by decide +kernel
theorem dX12_isBatch_0 : decode cX12_isBatch 0 = .ok (.iload_n 1, 1) := by decide +kernel
theorem dX12_isBatch_1 : decode cX12_isBatch 1 = .ok (.iconst 0, 1) := by decide +kernel
theorem dX12_isBatch_2 : decode cX12_isBatch 2 = .ok (.aload_n 0, 1) := by decide +kernel
theorem dX12_isBatch_3 : decode cX12_isBatch 3 = .ok (.getfield 227, 3) := by decide +kernel
theorem dX12_isBatch_6 : decode cX12_isBatch 6 = .ok (.iconst 1, 1) := by decide +kernel
theorem dX12_isBatch_7 : decode cX12_isBatch 7 = .ok (.isub, 1) := by decide +kernel
theorem dX12_isBatch_8 : decode cX12_isBatch 8 = .ok (.invokestatic 196, 3) := by decide +kernel
theorem dX12_isBatch_11 : decode cX12_isBatch 11 = .ok (.ireturn, 1) := by decide +kernel
theorem dX12_onShelf_0 : decode cX12_onShelf 0 = .ok (.aload_n 0, 1) := by decide +kernel
theorem dX12_onShelf_1 : decode cX12_onShelf 1 = .ok (.getfield 58, 3) := by decide +kernel
theorem dX12_onShelf_4 : decode cX12_onShelf 4 = .ok (.iload_n 1, 1) := by decide +kernel
theorem dX12_onShelf_5 : decode cX12_onShelf 5 = .ok (.iaload, 1) := by decide +kernel
theorem dX12_onShelf_6 : decode cX12_onShelf 6 = .ok (.aload_n 0, 1) := by decide +kernel
theorem dX12_onShelf_7 : decode cX12_onShelf 7 = .ok (.getfield 61, 3) := by decide +kernel
theorem dX12_onShelf_10 : decode cX12_onShelf 10 = .ok (.iload_n 1, 1) := by decide +kernel
theorem dX12_onShelf_11 : decode cX12_onShelf 11 = .ok (.iaload, 1) := by decide +kernel
theorem dX12_onShelf_12 : decode cX12_onShelf 12 = .ok (.isub, 1) := by decide +kernel
theorem dX12_onShelf_13 : decode cX12_onShelf 13 = .ok (.aload_n 0, 1) := by decide +kernel
theorem dX12_onShelf_14 : decode cX12_onShelf 14 = .ok (.getfield 64, 3) := by decide +kernel
theorem dX12_onShelf_17 : decode cX12_onShelf 17 = .ok (.iload_n 1, 1) := by decide +kernel
theorem dX12_onShelf_18 : decode cX12_onShelf 18 = .ok (.iaload, 1) := by decide +kernel
theorem dX12_onShelf_19 : decode cX12_onShelf 19 = .ok (.isub, 1) := by decide +kernel
theorem dX12_onShelf_20 : decode cX12_onShelf 20 = .ok (.aload_n 0, 1) := by decide +kernel
theorem dX12_onShelf_21 : decode cX12_onShelf 21 = .ok (.getfield 67, 3) := by decide +kernel
theorem dX12_onShelf_24 : decode cX12_onShelf 24 = .ok (.iload_n 1, 1) := by decide +kernel
theorem dX12_onShelf_25 : decode cX12_onShelf 25 = .ok (.iaload, 1) := by decide +kernel
theorem dX12_onShelf_26 : decode cX12_onShelf 26 = .ok (.isub, 1) := by decide +kernel
theorem dX12_onShelf_27 : decode cX12_onShelf 27 = .ok (.aload_n 0, 1) := by decide +kernel
theorem dX12_onShelf_28 : decode cX12_onShelf 28 = .ok (.getfield 70, 3) := by decide +kernel
theorem dX12_onShelf_31 : decode cX12_onShelf 31 = .ok (.iload_n 1, 1) := by decide +kernel
theorem dX12_onShelf_32 : decode cX12_onShelf 32 = .ok (.iaload, 1) := by decide +kernel
theorem dX12_onShelf_33 : decode cX12_onShelf 33 = .ok (.isub, 1) := by decide +kernel
theorem dX12_onShelf_34 : decode cX12_onShelf 34 = .ok (.ireturn, 1) := by decide +kernel
theorem dX12_addBatch_0 : decode cX12_addBatch 0 = .ok (.aload_n 0, 1) := by decide +kernel
theorem dX12_addBatch_1 : decode cX12_addBatch 1 = .ok (.getfield 43, 3) := by decide +kernel
theorem dX12_addBatch_4 : decode cX12_addBatch 4 = .ok (.aload_n 0, 1) := by decide +kernel
theorem dX12_addBatch_5 : decode cX12_addBatch 5 = .ok (.getfield 227, 3) := by decide +kernel
theorem dX12_addBatch_8 : decode cX12_addBatch 8 = .ok (.iload_n 1, 1) := by decide +kernel
theorem dX12_addBatch_9 : decode cX12_addBatch 9 = .ok (.iastore, 1) := by decide +kernel
theorem dX12_addBatch_10 : decode cX12_addBatch 10 = .ok (.aload_n 0, 1) := by decide +kernel
theorem dX12_addBatch_11 : decode cX12_addBatch 11 = .ok (.getfield 46, 3) := by decide +kernel
theorem dX12_addBatch_14 : decode cX12_addBatch 14 = .ok (.aload_n 0, 1) := by decide +kernel
theorem dX12_addBatch_15 : decode cX12_addBatch 15 = .ok (.getfield 227, 3) := by decide +kernel
theorem dX12_addBatch_18 : decode cX12_addBatch 18 = .ok (.iload_n 2, 1) := by decide +kernel
theorem dX12_addBatch_19 : decode cX12_addBatch 19 = .ok (.iastore, 1) := by decide +kernel
theorem dX12_addBatch_20 : decode cX12_addBatch 20 = .ok (.aload_n 0, 1) := by decide +kernel
theorem dX12_addBatch_21 : decode cX12_addBatch 21 = .ok (.getfield 49, 3) := by decide +kernel
theorem dX12_addBatch_24 : decode cX12_addBatch 24 = .ok (.aload_n 0, 1) := by decide +kernel
theorem dX12_addBatch_25 : decode cX12_addBatch 25 = .ok (.getfield 227, 3) := by decide +kernel
theorem dX12_addBatch_28 : decode cX12_addBatch 28 = .ok (.iload_n 3, 1) := by decide +kernel
theorem dX12_addBatch_29 : decode cX12_addBatch 29 = .ok (.iastore, 1) := by decide +kernel
theorem dX12_addBatch_30 : decode cX12_addBatch 30 = .ok (.aload_n 0, 1) := by decide +kernel
theorem dX12_addBatch_31 : decode cX12_addBatch 31 = .ok (.getfield 52, 3) := by decide +kernel
theorem dX12_addBatch_34 : decode cX12_addBatch 34 = .ok (.aload_n 0, 1) := by decide +kernel
theorem dX12_addBatch_35 : decode cX12_addBatch 35 = .ok (.getfield 227, 3) := by decide +kernel
theorem dX12_addBatch_38 : decode cX12_addBatch 38 = .ok (.iload 4, 2) := by decide +kernel
theorem dX12_addBatch_40 : decode cX12_addBatch 40 = .ok (.iastore, 1) := by decide +kernel
theorem dX12_addBatch_41 : decode cX12_addBatch 41 = .ok (.aload_n 0, 1) := by decide +kernel
theorem dX12_addBatch_42 : decode cX12_addBatch 42 = .ok (.getfield 55, 3) := by decide +kernel
theorem dX12_addBatch_45 : decode cX12_addBatch 45 = .ok (.aload_n 0, 1) := by decide +kernel
theorem dX12_addBatch_46 : decode cX12_addBatch 46 = .ok (.getfield 227, 3) := by decide +kernel
theorem dX12_addBatch_49 : decode cX12_addBatch 49 = .ok (.aload_n 0, 1) := by decide +kernel
theorem dX12_addBatch_50 : decode cX12_addBatch 50 = .ok (.invokevirtual 230, 3) := by decide +kernel
theorem dX12_addBatch_53 : decode cX12_addBatch 53 = .ok (.iastore, 1) := by decide +kernel
theorem dX12_addBatch_54 : decode cX12_addBatch 54 = .ok (.aload_n 0, 1) := by decide +kernel
theorem dX12_addBatch_55 : decode cX12_addBatch 55 = .ok (.getfield 58, 3) := by decide +kernel
theorem dX12_addBatch_58 : decode cX12_addBatch 58 = .ok (.aload_n 0, 1) := by decide +kernel
theorem dX12_addBatch_59 : decode cX12_addBatch 59 = .ok (.getfield 227, 3) := by decide +kernel
theorem dX12_addBatch_62 : decode cX12_addBatch 62 = .ok (.iload 5, 2) := by decide +kernel
theorem dX12_addBatch_64 : decode cX12_addBatch 64 = .ok (.iastore, 1) := by decide +kernel
theorem dX12_addBatch_65 : decode cX12_addBatch 65 = .ok (.aload_n 0, 1) := by decide +kernel
theorem dX12_addBatch_66 : decode cX12_addBatch 66 = .ok (.getfield 76, 3) := by decide +kernel
theorem dX12_addBatch_69 : decode cX12_addBatch 69 = .ok (.aload_n 0, 1) := by decide +kernel
theorem dX12_addBatch_70 : decode cX12_addBatch 70 = .ok (.getfield 227, 3) := by decide +kernel
theorem dX12_addBatch_73 : decode cX12_addBatch 73 = .ok (.iload 6, 2) := by decide +kernel
theorem dX12_addBatch_75 : decode cX12_addBatch 75 = .ok (.iastore, 1) := by decide +kernel
theorem dX12_addBatch_76 : decode cX12_addBatch 76 = .ok (.aload_n 0, 1) := by decide +kernel
theorem dX12_addBatch_77 : decode cX12_addBatch 77 = .ok (.dup, 1) := by decide +kernel
theorem dX12_addBatch_78 : decode cX12_addBatch 78 = .ok (.getfield 227, 3) := by decide +kernel
theorem dX12_addBatch_81 : decode cX12_addBatch 81 = .ok (.iconst 1, 1) := by decide +kernel
theorem dX12_addBatch_82 : decode cX12_addBatch 82 = .ok (.iadd, 1) := by decide +kernel
theorem dX12_addBatch_83 : decode cX12_addBatch 83 = .ok (.putfield 227, 3) := by decide +kernel
theorem dX12_addBatch_86 : decode cX12_addBatch 86 = .ok (.return_, 1) := by decide +kernel
theorem dX12_batch_0 : decode cX12_batch 0 = .ok (.aload_n 0, 1) := by decide +kernel
theorem dX12_batch_1 : decode cX12_batch 1 = .ok (.iload_n 1, 1) := by decide +kernel
theorem dX12_batch_2 : decode cX12_batch 2 = .ok (.invokevirtual 209, 3) := by decide +kernel
theorem dX12_batch_5 : decode cX12_batch 5 = .ok (.ifCond .eq 49, 3) := by decide +kernel
theorem dX12_batch_8 : decode cX12_batch 8 = .ok (.iload_n 2, 1) := by decide +kernel
theorem dX12_batch_9 : decode cX12_batch 9 = .ok (.ifCond .lt 45, 3) := by decide +kernel
theorem dX12_batch_12 : decode cX12_batch 12 = .ok (.aload_n 0, 1) := by decide +kernel
theorem dX12_batch_13 : decode cX12_batch 13 = .ok (.iload_n 2, 1) := by decide +kernel
theorem dX12_batch_14 : decode cX12_batch 14 = .ok (.bipush 100, 2) := by decide +kernel
theorem dX12_batch_16 : decode cX12_batch 16 = .ok (.idiv, 1) := by decide +kernel
theorem dX12_batch_17 : decode cX12_batch 17 = .ok (.invokevirtual 213, 3) := by decide +kernel
theorem dX12_batch_20 : decode cX12_batch 20 = .ok (.ifCond .eq 34, 3) := by decide +kernel
theorem dX12_batch_23 : decode cX12_batch 23 = .ok (.iload_n 3, 1) := by decide +kernel
theorem dX12_batch_24 : decode cX12_batch 24 = .ok (.iconst 0, 1) := by decide +kernel
theorem dX12_batch_25 : decode cX12_batch 25 = .ok (.bipush 9, 2) := by decide +kernel
theorem dX12_batch_27 : decode cX12_batch 27 = .ok (.invokestatic 196, 3) := by decide +kernel
theorem dX12_batch_30 : decode cX12_batch 30 = .ok (.ifCond .eq 24, 3) := by decide +kernel
theorem dX12_batch_33 : decode cX12_batch 33 = .ok (.aload_n 0, 1) := by decide +kernel
theorem dX12_batch_34 : decode cX12_batch 34 = .ok (.invokevirtual 230, 3) := by decide +kernel
theorem dX12_batch_37 : decode cX12_batch 37 = .ok (.iload_n 3, 1) := by decide +kernel
theorem dX12_batch_38 : decode cX12_batch 38 = .ok (.isub, 1) := by decide +kernel
theorem dX12_batch_39 : decode cX12_batch 39 = .ok (.ifCond .lt 15, 3) := by decide +kernel
theorem dX12_batch_42 : decode cX12_batch 42 = .ok (.iload 4, 2) := by decide +kernel
theorem dX12_batch_44 : decode cX12_batch 44 = .ok (.iconst 1, 1) := by decide +kernel
theorem dX12_batch_45 : decode cX12_batch 45 = .ok (.sipush 999, 3) := by decide +kernel
theorem dX12_batch_48 : decode cX12_batch 48 = .ok (.invokestatic 196, 3) := by decide +kernel
theorem dX12_batch_51 : decode cX12_batch 51 = .ok (.ifCond .ne 5, 3) := by decide +kernel
theorem dX12_batch_54 : decode cX12_batch 54 = .ok (.iconst (-1), 1) := by decide +kernel
theorem dX12_batch_55 : decode cX12_batch 55 = .ok (.ireturn, 1) := by decide +kernel
theorem dX12_batch_56 : decode cX12_batch 56 = .ok (.aload_n 0, 1) := by decide +kernel
theorem dX12_batch_57 : decode cX12_batch 57 = .ok (.getfield 227, 3) := by decide +kernel
theorem dX12_batch_60 : decode cX12_batch 60 = .ok (.sipush 200, 3) := by decide +kernel
theorem dX12_batch_63 : decode cX12_batch 63 = .ok (.if_icmp .ne 6, 3) := by decide +kernel
theorem dX12_batch_66 : decode cX12_batch 66 = .ok (.bipush (-3), 2) := by decide +kernel
theorem dX12_batch_68 : decode cX12_batch 68 = .ok (.ireturn, 1) := by decide +kernel
theorem dX12_batch_69 : decode cX12_batch 69 = .ok (.aload_n 0, 1) := by decide +kernel
theorem dX12_batch_70 : decode cX12_batch 70 = .ok (.iload_n 1, 1) := by decide +kernel
theorem dX12_batch_71 : decode cX12_batch 71 = .ok (.iload_n 2, 1) := by decide +kernel
theorem dX12_batch_72 : decode cX12_batch 72 = .ok (.bipush 100, 2) := by decide +kernel
theorem dX12_batch_74 : decode cX12_batch 74 = .ok (.idiv, 1) := by decide +kernel
theorem dX12_batch_75 : decode cX12_batch 75 = .ok (.iload_n 2, 1) := by decide +kernel
theorem dX12_batch_76 : decode cX12_batch 76 = .ok (.bipush 100, 2) := by decide +kernel
theorem dX12_batch_78 : decode cX12_batch 78 = .ok (.irem, 1) := by decide +kernel
theorem dX12_batch_79 : decode cX12_batch 79 = .ok (.aload_n 0, 1) := by decide +kernel
theorem dX12_batch_80 : decode cX12_batch 80 = .ok (.invokevirtual 230, 3) := by decide +kernel
theorem dX12_batch_83 : decode cX12_batch 83 = .ok (.iload_n 3, 1) := by decide +kernel
theorem dX12_batch_84 : decode cX12_batch 84 = .ok (.isub, 1) := by decide +kernel
theorem dX12_batch_85 : decode cX12_batch 85 = .ok (.iload 4, 2) := by decide +kernel
theorem dX12_batch_87 : decode cX12_batch 87 = .ok (.iconst (-1), 1) := by decide +kernel
theorem dX12_batch_88 : decode cX12_batch 88 = .ok (.invokevirtual 234, 3) := by decide +kernel
theorem dX12_batch_91 : decode cX12_batch 91 = .ok (.aload_n 0, 1) := by decide +kernel
theorem dX12_batch_92 : decode cX12_batch 92 = .ok (.dup, 1) := by decide +kernel
theorem dX12_batch_93 : decode cX12_batch 93 = .ok (.getfield 238, 3) := by decide +kernel
theorem dX12_batch_96 : decode cX12_batch 96 = .ok (.iload 4, 2) := by decide +kernel
theorem dX12_batch_98 : decode cX12_batch 98 = .ok (.aload_n 0, 1) := by decide +kernel
theorem dX12_batch_99 : decode cX12_batch 99 = .ok (.getfield 22, 3) := by decide +kernel
theorem dX12_batch_102 : decode cX12_batch 102 = .ok (.iload_n 2, 1) := by decide +kernel
theorem dX12_batch_103 : decode cX12_batch 103 = .ok (.bipush 100, 2) := by decide +kernel
theorem dX12_batch_105 : decode cX12_batch 105 = .ok (.idiv, 1) := by decide +kernel
theorem dX12_batch_106 : decode cX12_batch 106 = .ok (.iaload, 1) := by decide +kernel
theorem dX12_batch_107 : decode cX12_batch 107 = .ok (.imul, 1) := by decide +kernel
theorem dX12_batch_108 : decode cX12_batch 108 = .ok (.iadd, 1) := by decide +kernel
theorem dX12_batch_109 : decode cX12_batch 109 = .ok (.putfield 238, 3) := by decide +kernel
theorem dX12_batch_112 : decode cX12_batch 112 = .ok (.aload_n 0, 1) := by decide +kernel
theorem dX12_batch_113 : decode cX12_batch 113 = .ok (.getfield 227, 3) := by decide +kernel
theorem dX12_batch_116 : decode cX12_batch 116 = .ok (.iconst 1, 1) := by decide +kernel
theorem dX12_batch_117 : decode cX12_batch 117 = .ok (.isub, 1) := by decide +kernel
theorem dX12_batch_118 : decode cX12_batch 118 = .ok (.ireturn, 1) := by decide +kernel
theorem dX12_firstOf_0 : decode cX12_firstOf 0 = .ok (.iload_n 1, 1) := by decide +kernel
theorem dX12_firstOf_1 : decode cX12_firstOf 1 = .ok (.istore_n 2, 1) := by decide +kernel
theorem dX12_firstOf_2 : decode cX12_firstOf 2 = .ok (.aload_n 0, 1) := by decide +kernel
theorem dX12_firstOf_3 : decode cX12_firstOf 3 = .ok (.getfield 76, 3) := by decide +kernel
theorem dX12_firstOf_6 : decode cX12_firstOf 6 = .ok (.iload_n 2, 1) := by decide +kernel
theorem dX12_firstOf_7 : decode cX12_firstOf 7 = .ok (.iaload, 1) := by decide +kernel
theorem dX12_firstOf_8 : decode cX12_firstOf 8 = .ok (.ifCond .lt 13, 3) := by decide +kernel
theorem dX12_firstOf_11 : decode cX12_firstOf 11 = .ok (.aload_n 0, 1) := by decide +kernel
theorem dX12_firstOf_12 : decode cX12_firstOf 12 = .ok (.getfield 76, 3) := by decide +kernel
theorem dX12_firstOf_15 : decode cX12_firstOf 15 = .ok (.iload_n 2, 1) := by decide +kernel
theorem dX12_firstOf_16 : decode cX12_firstOf 16 = .ok (.iaload, 1) := by decide +kernel
theorem dX12_firstOf_17 : decode cX12_firstOf 17 = .ok (.istore_n 2, 1) := by decide +kernel
theorem dX12_firstOf_18 : decode cX12_firstOf 18 = .ok (.goto (-16), 3) := by decide +kernel
theorem dX12_firstOf_21 : decode cX12_firstOf 21 = .ok (.iload_n 2, 1) := by decide +kernel
theorem dX12_firstOf_22 : decode cX12_firstOf 22 = .ok (.ireturn, 1) := by decide +kernel
theorem dX12_ofBatch_0 : decode cX12_ofBatch 0 = .ok (.aload_n 0, 1) := by decide +kernel
theorem dX12_ofBatch_1 : decode cX12_ofBatch 1 = .ok (.iload_n 1, 1) := by decide +kernel
theorem dX12_ofBatch_2 : decode cX12_ofBatch 2 = .ok (.invokevirtual 241, 3) := by decide +kernel
theorem dX12_ofBatch_5 : decode cX12_ofBatch 5 = .ok (.ifCond .ne 6, 3) := by decide +kernel
theorem dX12_ofBatch_8 : decode cX12_ofBatch 8 = .ok (.ldc 244, 2) := by decide +kernel
theorem dX12_ofBatch_10 : decode cX12_ofBatch 10 = .ok (.ireturn, 1) := by decide +kernel
theorem dX12_ofBatch_11 : decode cX12_ofBatch 11 = .ok (.iload_n 2, 1) := by decide +kernel
theorem dX12_ofBatch_12 : decode cX12_ofBatch 12 = .ok (.tableswitch 157 0 12 #[68, 75, 82, 89, 96, 103, 109, 116, 123, 130, 137, 144, 151], 68) := by decide +kernel
theorem dX12_ofBatch_80 : decode cX12_ofBatch 80 = .ok (.aload_n 0, 1) := by decide +kernel
theorem dX12_ofBatch_81 : decode cX12_ofBatch 81 = .ok (.getfield 43, 3) := by decide +kernel
theorem dX12_ofBatch_84 : decode cX12_ofBatch 84 = .ok (.iload_n 1, 1) := by decide +kernel
theorem dX12_ofBatch_85 : decode cX12_ofBatch 85 = .ok (.iaload, 1) := by decide +kernel
theorem dX12_ofBatch_86 : decode cX12_ofBatch 86 = .ok (.ireturn, 1) := by decide +kernel
theorem dX12_ofBatch_87 : decode cX12_ofBatch 87 = .ok (.aload_n 0, 1) := by decide +kernel
theorem dX12_ofBatch_88 : decode cX12_ofBatch 88 = .ok (.getfield 46, 3) := by decide +kernel
theorem dX12_ofBatch_91 : decode cX12_ofBatch 91 = .ok (.iload_n 1, 1) := by decide +kernel
theorem dX12_ofBatch_92 : decode cX12_ofBatch 92 = .ok (.iaload, 1) := by decide +kernel
theorem dX12_ofBatch_93 : decode cX12_ofBatch 93 = .ok (.ireturn, 1) := by decide +kernel
theorem dX12_ofBatch_94 : decode cX12_ofBatch 94 = .ok (.aload_n 0, 1) := by decide +kernel
theorem dX12_ofBatch_95 : decode cX12_ofBatch 95 = .ok (.getfield 49, 3) := by decide +kernel
theorem dX12_ofBatch_98 : decode cX12_ofBatch 98 = .ok (.iload_n 1, 1) := by decide +kernel
theorem dX12_ofBatch_99 : decode cX12_ofBatch 99 = .ok (.iaload, 1) := by decide +kernel
theorem dX12_ofBatch_100 : decode cX12_ofBatch 100 = .ok (.ireturn, 1) := by decide +kernel
theorem dX12_ofBatch_101 : decode cX12_ofBatch 101 = .ok (.aload_n 0, 1) := by decide +kernel
theorem dX12_ofBatch_102 : decode cX12_ofBatch 102 = .ok (.getfield 52, 3) := by decide +kernel
theorem dX12_ofBatch_105 : decode cX12_ofBatch 105 = .ok (.iload_n 1, 1) := by decide +kernel
theorem dX12_ofBatch_106 : decode cX12_ofBatch 106 = .ok (.iaload, 1) := by decide +kernel
theorem dX12_ofBatch_107 : decode cX12_ofBatch 107 = .ok (.ireturn, 1) := by decide +kernel
theorem dX12_ofBatch_108 : decode cX12_ofBatch 108 = .ok (.aload_n 0, 1) := by decide +kernel
theorem dX12_ofBatch_109 : decode cX12_ofBatch 109 = .ok (.getfield 58, 3) := by decide +kernel
theorem dX12_ofBatch_112 : decode cX12_ofBatch 112 = .ok (.iload_n 1, 1) := by decide +kernel
theorem dX12_ofBatch_113 : decode cX12_ofBatch 113 = .ok (.iaload, 1) := by decide +kernel
theorem dX12_ofBatch_114 : decode cX12_ofBatch 114 = .ok (.ireturn, 1) := by decide +kernel
theorem dX12_ofBatch_115 : decode cX12_ofBatch 115 = .ok (.aload_n 0, 1) := by decide +kernel
theorem dX12_ofBatch_116 : decode cX12_ofBatch 116 = .ok (.iload_n 1, 1) := by decide +kernel
theorem dX12_ofBatch_117 : decode cX12_ofBatch 117 = .ok (.invokevirtual 245, 3) := by decide +kernel
theorem dX12_ofBatch_120 : decode cX12_ofBatch 120 = .ok (.ireturn, 1) := by decide +kernel
theorem dX12_ofBatch_121 : decode cX12_ofBatch 121 = .ok (.aload_n 0, 1) := by decide +kernel
theorem dX12_ofBatch_122 : decode cX12_ofBatch 122 = .ok (.getfield 61, 3) := by decide +kernel
theorem dX12_ofBatch_125 : decode cX12_ofBatch 125 = .ok (.iload_n 1, 1) := by decide +kernel
theorem dX12_ofBatch_126 : decode cX12_ofBatch 126 = .ok (.iaload, 1) := by decide +kernel
theorem dX12_ofBatch_127 : decode cX12_ofBatch 127 = .ok (.ireturn, 1) := by decide +kernel
theorem dX12_ofBatch_128 : decode cX12_ofBatch 128 = .ok (.aload_n 0, 1) := by decide +kernel
theorem dX12_ofBatch_129 : decode cX12_ofBatch 129 = .ok (.getfield 64, 3) := by decide +kernel
theorem dX12_ofBatch_132 : decode cX12_ofBatch 132 = .ok (.iload_n 1, 1) := by decide +kernel
theorem dX12_ofBatch_133 : decode cX12_ofBatch 133 = .ok (.iaload, 1) := by decide +kernel
theorem dX12_ofBatch_134 : decode cX12_ofBatch 134 = .ok (.ireturn, 1) := by decide +kernel
theorem dX12_ofBatch_135 : decode cX12_ofBatch 135 = .ok (.aload_n 0, 1) := by decide +kernel
theorem dX12_ofBatch_136 : decode cX12_ofBatch 136 = .ok (.getfield 67, 3) := by decide +kernel
theorem dX12_ofBatch_139 : decode cX12_ofBatch 139 = .ok (.iload_n 1, 1) := by decide +kernel
theorem dX12_ofBatch_140 : decode cX12_ofBatch 140 = .ok (.iaload, 1) := by decide +kernel
theorem dX12_ofBatch_141 : decode cX12_ofBatch 141 = .ok (.ireturn, 1) := by decide +kernel
theorem dX12_ofBatch_142 : decode cX12_ofBatch 142 = .ok (.aload_n 0, 1) := by decide +kernel
theorem dX12_ofBatch_143 : decode cX12_ofBatch 143 = .ok (.getfield 70, 3) := by decide +kernel
theorem dX12_ofBatch_146 : decode cX12_ofBatch 146 = .ok (.iload_n 1, 1) := by decide +kernel
theorem dX12_ofBatch_147 : decode cX12_ofBatch 147 = .ok (.iaload, 1) := by decide +kernel
theorem dX12_ofBatch_148 : decode cX12_ofBatch 148 = .ok (.ireturn, 1) := by decide +kernel
theorem dX12_ofBatch_149 : decode cX12_ofBatch 149 = .ok (.aload_n 0, 1) := by decide +kernel
theorem dX12_ofBatch_150 : decode cX12_ofBatch 150 = .ok (.getfield 73, 3) := by decide +kernel
theorem dX12_ofBatch_153 : decode cX12_ofBatch 153 = .ok (.iload_n 1, 1) := by decide +kernel
theorem dX12_ofBatch_154 : decode cX12_ofBatch 154 = .ok (.iaload, 1) := by decide +kernel
theorem dX12_ofBatch_155 : decode cX12_ofBatch 155 = .ok (.ireturn, 1) := by decide +kernel
theorem dX12_ofBatch_156 : decode cX12_ofBatch 156 = .ok (.aload_n 0, 1) := by decide +kernel
theorem dX12_ofBatch_157 : decode cX12_ofBatch 157 = .ok (.getfield 76, 3) := by decide +kernel
theorem dX12_ofBatch_160 : decode cX12_ofBatch 160 = .ok (.iload_n 1, 1) := by decide +kernel
theorem dX12_ofBatch_161 : decode cX12_ofBatch 161 = .ok (.iaload, 1) := by decide +kernel
theorem dX12_ofBatch_162 : decode cX12_ofBatch 162 = .ok (.ireturn, 1) := by decide +kernel
theorem dX12_ofBatch_163 : decode cX12_ofBatch 163 = .ok (.aload_n 0, 1) := by decide +kernel
theorem dX12_ofBatch_164 : decode cX12_ofBatch 164 = .ok (.iload_n 1, 1) := by decide +kernel
theorem dX12_ofBatch_165 : decode cX12_ofBatch 165 = .ok (.invokevirtual 249, 3) := by decide +kernel
theorem dX12_ofBatch_168 : decode cX12_ofBatch 168 = .ok (.ireturn, 1) := by decide +kernel
theorem dX12_ofBatch_169 : decode cX12_ofBatch 169 = .ok (.ldc 244, 2) := by decide +kernel
theorem dX12_ofBatch_171 : decode cX12_ofBatch 171 = .ok (.ireturn, 1) := by decide +kernel
theorem dX12_feed_0 : decode cX12_feed 0 = .ok (.aload_n 0, 1) := by decide +kernel
theorem dX12_feed_1 : decode cX12_feed 1 = .ok (.getfield 252, 3) := by decide +kernel
theorem dX12_feed_4 : decode cX12_feed 4 = .ok (.bipush 20, 2) := by decide +kernel
theorem dX12_feed_6 : decode cX12_feed 6 = .ok (.iadd, 1) := by decide +kernel
theorem dX12_feed_7 : decode cX12_feed 7 = .ok (.sipush 160, 3) := by decide +kernel
theorem dX12_feed_10 : decode cX12_feed 10 = .ok (.if_icmp .le 6, 3) := by decide +kernel
theorem dX12_feed_13 : decode cX12_feed 13 = .ok (.bipush (-3), 2) := by decide +kernel
theorem dX12_feed_15 : decode cX12_feed 15 = .ok (.ireturn, 1) := by decide +kernel
theorem dX12_feed_16 : decode cX12_feed 16 = .ok (.aload_n 0, 1) := by decide +kernel
theorem dX12_feed_17 : decode cX12_feed 17 = .ok (.iload_n 1, 1) := by decide +kernel
theorem dX12_feed_18 : decode cX12_feed 18 = .ok (.invokevirtual 255, 3) := by decide +kernel
theorem dX12_feed_21 : decode cX12_feed 21 = .ok (.aload_n 0, 1) := by decide +kernel
theorem dX12_feed_22 : decode cX12_feed 22 = .ok (.iload_n 2, 1) := by decide +kernel
theorem dX12_feed_23 : decode cX12_feed 23 = .ok (.invokevirtual 255, 3) := by decide +kernel
theorem dX12_feed_26 : decode cX12_feed 26 = .ok (.aload_n 0, 1) := by decide +kernel
theorem dX12_feed_27 : decode cX12_feed 27 = .ok (.iload_n 3, 1) := by decide +kernel
theorem dX12_feed_28 : decode cX12_feed 28 = .ok (.invokevirtual 255, 3) := by decide +kernel
theorem dX12_feed_31 : decode cX12_feed 31 = .ok (.aload_n 0, 1) := by decide +kernel
theorem dX12_feed_32 : decode cX12_feed 32 = .ok (.iload 4, 2) := by decide +kernel
theorem dX12_feed_34 : decode cX12_feed 34 = .ok (.invokevirtual 255, 3) := by decide +kernel
theorem dX12_feed_37 : decode cX12_feed 37 = .ok (.aload_n 0, 1) := by decide +kernel
theorem dX12_feed_38 : decode cX12_feed 38 = .ok (.iload 5, 2) := by decide +kernel
theorem dX12_feed_40 : decode cX12_feed 40 = .ok (.invokevirtual 255, 3) := by decide +kernel
theorem dX12_feed_43 : decode cX12_feed 43 = .ok (.aload_n 0, 1) := by decide +kernel
theorem dX12_feed_44 : decode cX12_feed 44 = .ok (.getfield 252, 3) := by decide +kernel
theorem dX12_feed_47 : decode cX12_feed 47 = .ok (.ireturn, 1) := by decide +kernel
theorem dX12_feedOne_0 : decode cX12_feedOne 0 = .ok (.iconst 3, 1) := by decide +kernel
theorem dX12_feedOne_1 : decode cX12_feedOne 1 = .ok (.istore_n 2, 1) := by decide +kernel
theorem dX12_feedOne_2 : decode cX12_feedOne 2 = .ok (.iload_n 2, 1) := by decide +kernel
theorem dX12_feedOne_3 : decode cX12_feedOne 3 = .ok (.ifCond .lt 35, 3) := by decide +kernel
theorem dX12_feedOne_6 : decode cX12_feedOne 6 = .ok (.aload_n 0, 1) := by decide +kernel
theorem dX12_feedOne_7 : decode cX12_feedOne 7 = .ok (.getfield 82, 3) := by decide +kernel
theorem dX12_feedOne_10 : decode cX12_feedOne 10 = .ok (.aload_n 0, 1) := by decide +kernel
theorem dX12_feedOne_11 : decode cX12_feedOne 11 = .ok (.getfield 252, 3) := by decide +kernel
theorem dX12_feedOne_14 : decode cX12_feedOne 14 = .ok (.iload_n 1, 1) := by decide +kernel
theorem dX12_feedOne_15 : decode cX12_feedOne 15 = .ok (.bipush 8, 2) := by decide +kernel
theorem dX12_feedOne_17 : decode cX12_feedOne 17 = .ok (.iload_n 2, 1) := by decide +kernel
theorem dX12_feedOne_18 : decode cX12_feedOne 18 = .ok (.imul, 1) := by decide +kernel
theorem dX12_feedOne_19 : decode cX12_feedOne 19 = .ok (.ishr, 1) := by decide +kernel
theorem dX12_feedOne_20 : decode cX12_feedOne 20 = .ok (.i2b, 1) := by decide +kernel
theorem dX12_feedOne_21 : decode cX12_feedOne 21 = .ok (.bastore, 1) := by decide +kernel
theorem dX12_feedOne_22 : decode cX12_feedOne 22 = .ok (.aload_n 0, 1) := by decide +kernel
theorem dX12_feedOne_23 : decode cX12_feedOne 23 = .ok (.dup, 1) := by decide +kernel
theorem dX12_feedOne_24 : decode cX12_feedOne 24 = .ok (.getfield 252, 3) := by decide +kernel
theorem dX12_feedOne_27 : decode cX12_feedOne 27 = .ok (.iconst 1, 1) := by decide +kernel
theorem dX12_feedOne_28 : decode cX12_feedOne 28 = .ok (.iadd, 1) := by decide +kernel
theorem dX12_feedOne_29 : decode cX12_feedOne 29 = .ok (.putfield 252, 3) := by decide +kernel
theorem dX12_feedOne_32 : decode cX12_feedOne 32 = .ok (.iinc 2 (-1), 3) := by decide +kernel
theorem dX12_feedOne_35 : decode cX12_feedOne 35 = .ok (.goto (-33), 3) := by decide +kernel
theorem dX12_feedOne_38 : decode cX12_feedOne 38 = .ok (.return_, 1) := by decide +kernel
theorem dX12_end_0 : decode cX12_end 0 = .ok (.iload_n 1, 1) := by decide +kernel
theorem dX12_end_1 : decode cX12_end 1 = .ok (.iconst 0, 1) := by decide +kernel
theorem dX12_end_2 : decode cX12_end 2 = .ok (.aload_n 0, 1) := by decide +kernel
theorem dX12_end_3 : decode cX12_end 3 = .ok (.getfield 252, 3) := by decide +kernel
theorem dX12_end_6 : decode cX12_end 6 = .ok (.invokestatic 196, 3) := by decide +kernel
theorem dX12_end_9 : decode cX12_end 9 = .ok (.ifCond .ne 5, 3) := by decide +kernel
theorem dX12_end_12 : decode cX12_end 12 = .ok (.iconst (-1), 1) := by decide +kernel
theorem dX12_end_13 : decode cX12_end 13 = .ok (.ireturn, 1) := by decide +kernel
theorem dX12_end_14 : decode cX12_end 14 = .ok (.aload_n 0, 1) := by decide +kernel
theorem dX12_end_15 : decode cX12_end 15 = .ok (.iload_n 1, 1) := by decide +kernel
theorem dX12_end_16 : decode cX12_end 16 = .ok (.putfield 252, 3) := by decide +kernel
theorem dX12_end_19 : decode cX12_end 19 = .ok (.iload_n 1, 1) := by decide +kernel
theorem dX12_end_20 : decode cX12_end 20 = .ok (.ireturn, 1) := by decide +kernel
theorem dX12_look_0 : decode cX12_look 0 = .ok (.aload_n 0, 1) := by decide +kernel
theorem dX12_look_1 : decode cX12_look 1 = .ok (.getfield 259, 3) := by decide +kernel
theorem dX12_look_4 : decode cX12_look 4 = .ok (.aload_n 0, 1) := by decide +kernel
theorem dX12_look_5 : decode cX12_look 5 = .ok (.getfield 252, 3) := by decide +kernel
theorem dX12_look_8 : decode cX12_look 8 = .ok (.if_icmp .ge 15, 3) := by decide +kernel
theorem dX12_look_11 : decode cX12_look 11 = .ok (.aload_n 0, 1) := by decide +kernel
theorem dX12_look_12 : decode cX12_look 12 = .ok (.getfield 82, 3) := by decide +kernel
theorem dX12_look_15 : decode cX12_look 15 = .ok (.aload_n 0, 1) := by decide +kernel
theorem dX12_look_16 : decode cX12_look 16 = .ok (.getfield 259, 3) := by decide +kernel
theorem dX12_look_19 : decode cX12_look 19 = .ok (.baload, 1) := by decide +kernel
theorem dX12_look_20 : decode cX12_look 20 = .ok (.goto 4, 3) := by decide +kernel
theorem dX12_look_23 : decode cX12_look 23 = .ok (.iconst (-1), 1) := by decide +kernel
theorem dX12_look_24 : decode cX12_look 24 = .ok (.ireturn, 1) := by decide +kernel
theorem dX12_wrong_0 : decode cX12_wrong 0 = .ok (.aload_n 0, 1) := by decide +kernel
theorem dX12_wrong_1 : decode cX12_wrong 1 = .ok (.getfield 262, 3) := by decide +kernel
theorem dX12_wrong_4 : decode cX12_wrong 4 = .ok (.ifCond .ge 11, 3) := by decide +kernel
theorem dX12_wrong_7 : decode cX12_wrong 7 = .ok (.aload_n 0, 1) := by decide +kernel
theorem dX12_wrong_8 : decode cX12_wrong 8 = .ok (.aload_n 0, 1) := by decide +kernel
theorem dX12_wrong_9 : decode cX12_wrong 9 = .ok (.getfield 259, 3) := by decide +kernel
theorem dX12_wrong_12 : decode cX12_wrong 12 = .ok (.putfield 262, 3) := by decide +kernel
theorem dX12_wrong_15 : decode cX12_wrong 15 = .ok (.return_, 1) := by decide +kernel
theorem dX12_lay_0 : decode cX12_lay 0 = .ok (.aload_n 0, 1) := by decide +kernel
theorem dX12_lay_1 : decode cX12_lay 1 = .ok (.getfield 98, 3) := by decide +kernel
theorem dX12_lay_4 : decode cX12_lay 4 = .ok (.sipush 170, 3) := by decide +kernel
theorem dX12_lay_7 : decode cX12_lay 7 = .ok (.aload_n 0, 1) := by decide +kernel
theorem dX12_lay_8 : decode cX12_lay 8 = .ok (.getfield 265, 3) := by decide +kernel
theorem dX12_lay_11 : decode cX12_lay 11 = .ok (.imul, 1) := by decide +kernel
theorem dX12_lay_12 : decode cX12_lay 12 = .ok (.aload_n 0, 1) := by decide +kernel
theorem dX12_lay_13 : decode cX12_lay 13 = .ok (.getfield 268, 3) := by decide +kernel
theorem dX12_lay_16 : decode cX12_lay 16 = .ok (.iadd, 1) := by decide +kernel
theorem dX12_lay_17 : decode cX12_lay 17 = .ok (.iload_n 1, 1) := by decide +kernel
theorem dX12_lay_18 : decode cX12_lay 18 = .ok (.iastore, 1) := by decide +kernel
theorem dX12_lay_19 : decode cX12_lay 19 = .ok (.aload_n 0, 1) := by decide +kernel
theorem dX12_lay_20 : decode cX12_lay 20 = .ok (.getfield 101, 3) := by decide +kernel
theorem dX12_lay_23 : decode cX12_lay 23 = .ok (.sipush 170, 3) := by decide +kernel
theorem dX12_lay_26 : decode cX12_lay 26 = .ok (.aload_n 0, 1) := by decide +kernel
theorem dX12_lay_27 : decode cX12_lay 27 = .ok (.getfield 265, 3) := by decide +kernel
theorem dX12_lay_30 : decode cX12_lay 30 = .ok (.imul, 1) := by decide +kernel
theorem dX12_lay_31 : decode cX12_lay 31 = .ok (.aload_n 0, 1) := by decide +kernel
theorem dX12_lay_32 : decode cX12_lay 32 = .ok (.getfield 268, 3) := by decide +kernel
theorem dX12_lay_35 : decode cX12_lay 35 = .ok (.iadd, 1) := by decide +kernel
theorem dX12_lay_36 : decode cX12_lay 36 = .ok (.iload_n 2, 1) := by decide +kernel
theorem dX12_lay_37 : decode cX12_lay 37 = .ok (.iastore, 1) := by decide +kernel
theorem dX12_lay_38 : decode cX12_lay 38 = .ok (.aload_n 0, 1) := by decide +kernel
theorem dX12_lay_39 : decode cX12_lay 39 = .ok (.dup, 1) := by decide +kernel
theorem dX12_lay_40 : decode cX12_lay 40 = .ok (.getfield 268, 3) := by decide +kernel
theorem dX12_lay_43 : decode cX12_lay 43 = .ok (.iconst 1, 1) := by decide +kernel
theorem dX12_lay_44 : decode cX12_lay 44 = .ok (.iadd, 1) := by decide +kernel
theorem dX12_lay_45 : decode cX12_lay 45 = .ok (.putfield 268, 3) := by decide +kernel
theorem dX12_lay_48 : decode cX12_lay 48 = .ok (.return_, 1) := by decide +kernel
theorem dX12_nameOf_0 : decode cX12_nameOf 0 = .ok (.iload_n 0, 1) := by decide +kernel
theorem dX12_nameOf_1 : decode cX12_nameOf 1 = .ok (.tableswitch 125 97 119 #[107, 125, 111, 125, 125, 125, 125, 115, 125, 125, 109, 125, 125, 119, 125, 117, 125, 125, 122, 125, 125, 125, 113], 107) := by decide +kernel
theorem dX12_nameOf_108 : decode cX12_nameOf 108 = .ok (.iconst 0, 1) := by decide +kernel
theorem dX12_nameOf_109 : decode cX12_nameOf 109 = .ok (.ireturn, 1) := by decide +kernel
theorem dX12_nameOf_110 : decode cX12_nameOf 110 = .ok (.iconst 1, 1) := by decide +kernel
theorem dX12_nameOf_111 : decode cX12_nameOf 111 = .ok (.ireturn, 1) := by decide +kernel
theorem dX12_nameOf_112 : decode cX12_nameOf 112 = .ok (.iconst 2, 1) := by decide +kernel
theorem dX12_nameOf_113 : decode cX12_nameOf 113 = .ok (.ireturn, 1) := by decide +kernel
theorem dX12_nameOf_114 : decode cX12_nameOf 114 = .ok (.iconst 3, 1) := by decide +kernel
theorem dX12_nameOf_115 : decode cX12_nameOf 115 = .ok (.ireturn, 1) := by decide +kernel
theorem dX12_nameOf_116 : decode cX12_nameOf 116 = .ok (.iconst 4, 1) := by decide +kernel
theorem dX12_nameOf_117 : decode cX12_nameOf 117 = .ok (.ireturn, 1) := by decide +kernel
theorem dX12_nameOf_118 : decode cX12_nameOf 118 = .ok (.iconst 5, 1) := by decide +kernel
theorem dX12_nameOf_119 : decode cX12_nameOf 119 = .ok (.ireturn, 1) := by decide +kernel
theorem dX12_nameOf_120 : decode cX12_nameOf 120 = .ok (.bipush 6, 2) := by decide +kernel
theorem dX12_nameOf_122 : decode cX12_nameOf 122 = .ok (.ireturn, 1) := by decide +kernel
theorem dX12_nameOf_123 : decode cX12_nameOf 123 = .ok (.bipush 7, 2) := by decide +kernel
theorem dX12_nameOf_125 : decode cX12_nameOf 125 = .ok (.ireturn, 1) := by decide +kernel
theorem dX12_nameOf_126 : decode cX12_nameOf 126 = .ok (.iconst (-1), 1) := by decide +kernel
theorem dX12_nameOf_127 : decode cX12_nameOf 127 = .ok (.ireturn, 1) := by decide +kernel
theorem dX12_operand_0 : decode cX12_operand 0 = .ok (.aload_n 0, 1) := by decide +kernel
theorem dX12_operand_1 : decode cX12_operand 1 = .ok (.invokevirtual 271, 3) := by decide +kernel
theorem dX12_operand_4 : decode cX12_operand 4 = .ok (.istore_n 1, 1) := by decide +kernel
theorem dX12_operand_5 : decode cX12_operand 5 = .ok (.iload_n 1, 1) := by decide +kernel
theorem dX12_operand_6 : decode cX12_operand 6 = .ok (.invokestatic 274, 3) := by decide +kernel
theorem dX12_operand_9 : decode cX12_operand 9 = .ok (.ifCond .lt 23, 3) := by decide +kernel
theorem dX12_operand_12 : decode cX12_operand 12 = .ok (.aload_n 0, 1) := by decide +kernel
theorem dX12_operand_13 : decode cX12_operand 13 = .ok (.iconst 2, 1) := by decide +kernel
theorem dX12_operand_14 : decode cX12_operand 14 = .ok (.iload_n 1, 1) := by decide +kernel
theorem dX12_operand_15 : decode cX12_operand 15 = .ok (.invokestatic 274, 3) := by decide +kernel
theorem dX12_operand_18 : decode cX12_operand 18 = .ok (.invokevirtual 277, 3) := by decide +kernel
theorem dX12_operand_21 : decode cX12_operand 21 = .ok (.aload_n 0, 1) := by decide +kernel
theorem dX12_operand_22 : decode cX12_operand 22 = .ok (.dup, 1) := by decide +kernel
theorem dX12_operand_23 : decode cX12_operand 23 = .ok (.getfield 259, 3) := by decide +kernel
theorem dX12_operand_26 : decode cX12_operand 26 = .ok (.iconst 1, 1) := by decide +kernel
theorem dX12_operand_27 : decode cX12_operand 27 = .ok (.iadd, 1) := by decide +kernel
theorem dX12_operand_28 : decode cX12_operand 28 = .ok (.putfield 259, 3) := by decide +kernel
theorem dX12_operand_31 : decode cX12_operand 31 = .ok (.return_, 1) := by decide +kernel
theorem dX12_operand_32 : decode cX12_operand 32 = .ok (.iload_n 1, 1) := by decide +kernel
theorem dX12_operand_33 : decode cX12_operand 33 = .ok (.bipush 33, 2) := by decide +kernel
theorem dX12_operand_35 : decode cX12_operand 35 = .ok (.if_icmp .eq 9, 3) := by decide +kernel
theorem dX12_operand_38 : decode cX12_operand 38 = .ok (.iload_n 1, 1) := by decide +kernel
theorem dX12_operand_39 : decode cX12_operand 39 = .ok (.bipush 40, 2) := by decide +kernel
theorem dX12_operand_41 : decode cX12_operand 41 = .ok (.if_icmp .ne 103, 3) := by decide +kernel
theorem dX12_operand_44 : decode cX12_operand 44 = .ok (.aload_n 0, 1) := by decide +kernel
theorem dX12_operand_45 : decode cX12_operand 45 = .ok (.getfield 281, 3) := by decide +kernel
theorem dX12_operand_48 : decode cX12_operand 48 = .ok (.bipush 9, 2) := by decide +kernel
theorem dX12_operand_50 : decode cX12_operand 50 = .ok (.if_icmp .ne 8, 3) := by decide +kernel
theorem dX12_operand_53 : decode cX12_operand 53 = .ok (.aload_n 0, 1) := by decide +kernel
theorem dX12_operand_54 : decode cX12_operand 54 = .ok (.invokevirtual 284, 3) := by decide +kernel
theorem dX12_operand_57 : decode cX12_operand 57 = .ok (.return_, 1) := by decide +kernel
theorem dX12_operand_58 : decode cX12_operand 58 = .ok (.aload_n 0, 1) := by decide +kernel
theorem dX12_operand_59 : decode cX12_operand 59 = .ok (.dup, 1) := by decide +kernel
theorem dX12_operand_60 : decode cX12_operand 60 = .ok (.getfield 281, 3) := by decide +kernel
theorem dX12_operand_63 : decode cX12_operand 63 = .ok (.iconst 1, 1) := by decide +kernel
theorem dX12_operand_64 : decode cX12_operand 64 = .ok (.iadd, 1) := by decide +kernel
theorem dX12_operand_65 : decode cX12_operand 65 = .ok (.putfield 281, 3) := by decide +kernel
theorem dX12_operand_68 : decode cX12_operand 68 = .ok (.aload_n 0, 1) := by decide +kernel
theorem dX12_operand_69 : decode cX12_operand 69 = .ok (.dup, 1) := by decide +kernel
theorem dX12_operand_70 : decode cX12_operand 70 = .ok (.getfield 259, 3) := by decide +kernel
theorem dX12_operand_73 : decode cX12_operand 73 = .ok (.iconst 1, 1) := by decide +kernel
theorem dX12_operand_74 : decode cX12_operand 74 = .ok (.iadd, 1) := by decide +kernel
theorem dX12_operand_75 : decode cX12_operand 75 = .ok (.putfield 259, 3) := by decide +kernel
theorem dX12_operand_78 : decode cX12_operand 78 = .ok (.iload_n 1, 1) := by decide +kernel
theorem dX12_operand_79 : decode cX12_operand 79 = .ok (.bipush 33, 2) := by decide +kernel
theorem dX12_operand_81 : decode cX12_operand 81 = .ok (.if_icmp .ne 16, 3) := by decide +kernel
theorem dX12_operand_84 : decode cX12_operand 84 = .ok (.aload_n 0, 1) := by decide +kernel
theorem dX12_operand_85 : decode cX12_operand 85 = .ok (.invokevirtual 287, 3) := by decide +kernel
theorem dX12_operand_88 : decode cX12_operand 88 = .ok (.aload_n 0, 1) := by decide +kernel
theorem dX12_operand_89 : decode cX12_operand 89 = .ok (.iconst 5, 1) := by decide +kernel
theorem dX12_operand_90 : decode cX12_operand 90 = .ok (.iconst 0, 1) := by decide +kernel
theorem dX12_operand_91 : decode cX12_operand 91 = .ok (.invokevirtual 277, 3) := by decide +kernel
theorem dX12_operand_94 : decode cX12_operand 94 = .ok (.goto 39, 3) := by decide +kernel
theorem dX12_operand_97 : decode cX12_operand 97 = .ok (.aload_n 0, 1) := by decide +kernel
theorem dX12_operand_98 : decode cX12_operand 98 = .ok (.invokevirtual 290, 3) := by decide +kernel
theorem dX12_operand_101 : decode cX12_operand 101 = .ok (.aload_n 0, 1) := by decide +kernel
theorem dX12_operand_102 : decode cX12_operand 102 = .ok (.getfield 262, 3) := by decide +kernel
theorem dX12_operand_105 : decode cX12_operand 105 = .ok (.ifCond .lt 4, 3) := by decide +kernel
theorem dX12_operand_108 : decode cX12_operand 108 = .ok (.return_, 1) := by decide +kernel
theorem dX12_operand_109 : decode cX12_operand 109 = .ok (.aload_n 0, 1) := by decide +kernel
theorem dX12_operand_110 : decode cX12_operand 110 = .ok (.invokevirtual 271, 3) := by decide +kernel
theorem dX12_operand_113 : decode cX12_operand 113 = .ok (.bipush 41, 2) := by decide +kernel
theorem dX12_operand_115 : decode cX12_operand 115 = .ok (.if_icmp .eq 8, 3) := by decide +kernel
theorem dX12_operand_118 : decode cX12_operand 118 = .ok (.aload_n 0, 1) := by decide +kernel
theorem dX12_operand_119 : decode cX12_operand 119 = .ok (.invokevirtual 284, 3) := by decide +kernel
theorem dX12_operand_122 : decode cX12_operand 122 = .ok (.return_, 1) := by decide +kernel
theorem dX12_operand_123 : decode cX12_operand 123 = .ok (.aload_n 0, 1) := by decide +kernel
theorem dX12_operand_124 : decode cX12_operand 124 = .ok (.dup, 1) := by decide +kernel
theorem dX12_operand_125 : decode cX12_operand 125 = .ok (.getfield 259, 3) := by decide +kernel
theorem dX12_operand_128 : decode cX12_operand 128 = .ok (.iconst 1, 1) := by decide +kernel
theorem dX12_operand_129 : decode cX12_operand 129 = .ok (.iadd, 1) := by decide +kernel
theorem dX12_operand_130 : decode cX12_operand 130 = .ok (.putfield 259, 3) := by decide +kernel
theorem dX12_operand_133 : decode cX12_operand 133 = .ok (.aload_n 0, 1) := by decide +kernel
theorem dX12_operand_134 : decode cX12_operand 134 = .ok (.dup, 1) := by decide +kernel
theorem dX12_operand_135 : decode cX12_operand 135 = .ok (.getfield 281, 3) := by decide +kernel
theorem dX12_operand_138 : decode cX12_operand 138 = .ok (.iconst 1, 1) := by decide +kernel
theorem dX12_operand_139 : decode cX12_operand 139 = .ok (.isub, 1) := by decide +kernel
theorem dX12_operand_140 : decode cX12_operand 140 = .ok (.putfield 281, 3) := by decide +kernel
theorem dX12_operand_143 : decode cX12_operand 143 = .ok (.return_, 1) := by decide +kernel
theorem dX12_operand_144 : decode cX12_operand 144 = .ok (.iconst 0, 1) := by decide +kernel
theorem dX12_operand_145 : decode cX12_operand 145 = .ok (.istore_n 2, 1) := by decide +kernel
theorem dX12_operand_146 : decode cX12_operand 146 = .ok (.iconst 0, 1) := by decide +kernel
theorem dX12_operand_147 : decode cX12_operand 147 = .ok (.istore_n 3, 1) := by decide +kernel
theorem dX12_operand_148 : decode cX12_operand 148 = .ok (.iload_n 2, 1) := by decide +kernel
theorem dX12_operand_149 : decode cX12_operand 149 = .ok (.iconst 4, 1) := by decide +kernel
theorem dX12_operand_150 : decode cX12_operand 150 = .ok (.if_icmp .ge 46, 3) := by decide +kernel
theorem dX12_operand_153 : decode cX12_operand 153 = .ok (.aload_n 0, 1) := by decide +kernel
theorem dX12_operand_154 : decode cX12_operand 154 = .ok (.invokevirtual 271, 3) := by decide +kernel
theorem dX12_operand_157 : decode cX12_operand 157 = .ok (.bipush 48, 2) := by decide +kernel
theorem dX12_operand_159 : decode cX12_operand 159 = .ok (.bipush 57, 2) := by decide +kernel
theorem dX12_operand_161 : decode cX12_operand 161 = .ok (.invokestatic 196, 3) := by decide +kernel
theorem dX12_operand_164 : decode cX12_operand 164 = .ok (.ifCond .eq 32, 3) := by decide +kernel
theorem dX12_operand_167 : decode cX12_operand 167 = .ok (.bipush 10, 2) := by decide +kernel
theorem dX12_operand_169 : decode cX12_operand 169 = .ok (.iload_n 3, 1) := by decide +kernel
theorem dX12_operand_170 : decode cX12_operand 170 = .ok (.imul, 1) := by decide +kernel
theorem dX12_operand_171 : decode cX12_operand 171 = .ok (.aload_n 0, 1) := by decide +kernel
theorem dX12_operand_172 : decode cX12_operand 172 = .ok (.invokevirtual 271, 3) := by decide +kernel
theorem dX12_operand_175 : decode cX12_operand 175 = .ok (.iadd, 1) := by decide +kernel
theorem dX12_operand_176 : decode cX12_operand 176 = .ok (.bipush 48, 2) := by decide +kernel
theorem dX12_operand_178 : decode cX12_operand 178 = .ok (.isub, 1) := by decide +kernel
theorem dX12_operand_179 : decode cX12_operand 179 = .ok (.istore_n 3, 1) := by decide +kernel
theorem dX12_operand_180 : decode cX12_operand 180 = .ok (.iinc 2 1, 3) := by decide +kernel
theorem dX12_operand_183 : decode cX12_operand 183 = .ok (.aload_n 0, 1) := by decide +kernel
theorem dX12_operand_184 : decode cX12_operand 184 = .ok (.dup, 1) := by decide +kernel
theorem dX12_operand_185 : decode cX12_operand 185 = .ok (.getfield 259, 3) := by decide +kernel
theorem dX12_operand_188 : decode cX12_operand 188 = .ok (.iconst 1, 1) := by decide +kernel
theorem dX12_operand_189 : decode cX12_operand 189 = .ok (.iadd, 1) := by decide +kernel
theorem dX12_operand_190 : decode cX12_operand 190 = .ok (.putfield 259, 3) := by decide +kernel
theorem dX12_operand_193 : decode cX12_operand 193 = .ok (.goto (-45), 3) := by decide +kernel
theorem dX12_operand_196 : decode cX12_operand 196 = .ok (.iload_n 2, 1) := by decide +kernel
theorem dX12_operand_197 : decode cX12_operand 197 = .ok (.ifCond .eq 17, 3) := by decide +kernel
theorem dX12_operand_200 : decode cX12_operand 200 = .ok (.aload_n 0, 1) := by decide +kernel
theorem dX12_operand_201 : decode cX12_operand 201 = .ok (.invokevirtual 271, 3) := by decide +kernel
theorem dX12_operand_204 : decode cX12_operand 204 = .ok (.bipush 48, 2) := by decide +kernel
theorem dX12_operand_206 : decode cX12_operand 206 = .ok (.bipush 57, 2) := by decide +kernel
theorem dX12_operand_208 : decode cX12_operand 208 = .ok (.invokestatic 196, 3) := by decide +kernel
theorem dX12_operand_211 : decode cX12_operand 211 = .ok (.ifCond .eq 8, 3) := by decide +kernel
theorem dX12_operand_214 : decode cX12_operand 214 = .ok (.aload_n 0, 1) := by decide +kernel
theorem dX12_operand_215 : decode cX12_operand 215 = .ok (.invokevirtual 284, 3) := by decide +kernel
theorem dX12_operand_218 : decode cX12_operand 218 = .ok (.return_, 1) := by decide +kernel
theorem dX12_operand_219 : decode cX12_operand 219 = .ok (.aload_n 0, 1) := by decide +kernel
theorem dX12_operand_220 : decode cX12_operand 220 = .ok (.iconst 1, 1) := by decide +kernel
theorem dX12_operand_221 : decode cX12_operand 221 = .ok (.iload_n 3, 1) := by decide +kernel
theorem dX12_operand_222 : decode cX12_operand 222 = .ok (.invokevirtual 277, 3) := by decide +kernel
theorem dX12_operand_225 : decode cX12_operand 225 = .ok (.return_, 1) := by decide +kernel
theorem dX12_product_0 : decode cX12_product 0 = .ok (.aload_n 0, 1) := by decide +kernel
theorem dX12_product_1 : decode cX12_product 1 = .ok (.invokevirtual 287, 3) := by decide +kernel
theorem dX12_product_4 : decode cX12_product 4 = .ok (.aload_n 0, 1) := by decide +kernel
theorem dX12_product_5 : decode cX12_product 5 = .ok (.getfield 262, 3) := by decide +kernel
theorem dX12_product_8 : decode cX12_product 8 = .ok (.ifCond .ge 49, 3) := by decide +kernel
theorem dX12_product_11 : decode cX12_product 11 = .ok (.aload_n 0, 1) := by decide +kernel
theorem dX12_product_12 : decode cX12_product 12 = .ok (.invokevirtual 271, 3) := by decide +kernel
theorem dX12_product_15 : decode cX12_product 15 = .ok (.bipush 42, 2) := by decide +kernel
theorem dX12_product_17 : decode cX12_product 17 = .ok (.if_icmp .eq 12, 3) := by decide +kernel
theorem dX12_product_20 : decode cX12_product 20 = .ok (.aload_n 0, 1) := by decide +kernel
theorem dX12_product_21 : decode cX12_product 21 = .ok (.invokevirtual 271, 3) := by decide +kernel
theorem dX12_product_24 : decode cX12_product 24 = .ok (.bipush 47, 2) := by decide +kernel
theorem dX12_product_26 : decode cX12_product 26 = .ok (.if_icmp .ne 31, 3) := by decide +kernel
theorem dX12_product_29 : decode cX12_product 29 = .ok (.aload_n 0, 1) := by decide +kernel
theorem dX12_product_30 : decode cX12_product 30 = .ok (.invokevirtual 271, 3) := by decide +kernel
theorem dX12_product_33 : decode cX12_product 33 = .ok (.istore_n 1, 1) := by decide +kernel
theorem dX12_product_34 : decode cX12_product 34 = .ok (.aload_n 0, 1) := by decide +kernel
theorem dX12_product_35 : decode cX12_product 35 = .ok (.dup, 1) := by decide +kernel
theorem dX12_product_36 : decode cX12_product 36 = .ok (.getfield 259, 3) := by decide +kernel
theorem dX12_product_39 : decode cX12_product 39 = .ok (.iconst 1, 1) := by decide +kernel
theorem dX12_product_40 : decode cX12_product 40 = .ok (.iadd, 1) := by decide +kernel
theorem dX12_product_41 : decode cX12_product 41 = .ok (.putfield 259, 3) := by decide +kernel
theorem dX12_product_44 : decode cX12_product 44 = .ok (.aload_n 0, 1) := by decide +kernel
theorem dX12_product_45 : decode cX12_product 45 = .ok (.invokevirtual 287, 3) := by decide +kernel
theorem dX12_product_48 : decode cX12_product 48 = .ok (.aload_n 0, 1) := by decide +kernel
theorem dX12_product_49 : decode cX12_product 49 = .ok (.iload_n 1, 1) := by decide +kernel
theorem dX12_product_50 : decode cX12_product 50 = .ok (.iconst 0, 1) := by decide +kernel
theorem dX12_product_51 : decode cX12_product 51 = .ok (.invokevirtual 277, 3) := by decide +kernel
theorem dX12_product_54 : decode cX12_product 54 = .ok (.goto (-50), 3) := by decide +kernel
theorem dX12_product_57 : decode cX12_product 57 = .ok (.return_, 1) := by decide +kernel
theorem dX12_sum_0 : decode cX12_sum 0 = .ok (.aload_n 0, 1) := by decide +kernel
theorem dX12_sum_1 : decode cX12_sum 1 = .ok (.invokevirtual 293, 3) := by decide +kernel
theorem dX12_sum_4 : decode cX12_sum 4 = .ok (.aload_n 0, 1) := by decide +kernel
theorem dX12_sum_5 : decode cX12_sum 5 = .ok (.getfield 262, 3) := by decide +kernel
theorem dX12_sum_8 : decode cX12_sum 8 = .ok (.ifCond .ge 49, 3) := by decide +kernel
theorem dX12_sum_11 : decode cX12_sum 11 = .ok (.aload_n 0, 1) := by decide +kernel
theorem dX12_sum_12 : decode cX12_sum 12 = .ok (.invokevirtual 271, 3) := by decide +kernel
theorem dX12_sum_15 : decode cX12_sum 15 = .ok (.bipush 43, 2) := by decide +kernel
theorem dX12_sum_17 : decode cX12_sum 17 = .ok (.if_icmp .eq 12, 3) := by decide +kernel
theorem dX12_sum_20 : decode cX12_sum 20 = .ok (.aload_n 0, 1) := by decide +kernel
theorem dX12_sum_21 : decode cX12_sum 21 = .ok (.invokevirtual 271, 3) := by decide +kernel
theorem dX12_sum_24 : decode cX12_sum 24 = .ok (.bipush 45, 2) := by decide +kernel
theorem dX12_sum_26 : decode cX12_sum 26 = .ok (.if_icmp .ne 31, 3) := by decide +kernel
theorem dX12_sum_29 : decode cX12_sum 29 = .ok (.aload_n 0, 1) := by decide +kernel
theorem dX12_sum_30 : decode cX12_sum 30 = .ok (.invokevirtual 271, 3) := by decide +kernel
theorem dX12_sum_33 : decode cX12_sum 33 = .ok (.istore_n 1, 1) := by decide +kernel
theorem dX12_sum_34 : decode cX12_sum 34 = .ok (.aload_n 0, 1) := by decide +kernel
theorem dX12_sum_35 : decode cX12_sum 35 = .ok (.dup, 1) := by decide +kernel
theorem dX12_sum_36 : decode cX12_sum 36 = .ok (.getfield 259, 3) := by decide +kernel
theorem dX12_sum_39 : decode cX12_sum 39 = .ok (.iconst 1, 1) := by decide +kernel
theorem dX12_sum_40 : decode cX12_sum 40 = .ok (.iadd, 1) := by decide +kernel
theorem dX12_sum_41 : decode cX12_sum 41 = .ok (.putfield 259, 3) := by decide +kernel
theorem dX12_sum_44 : decode cX12_sum 44 = .ok (.aload_n 0, 1) := by decide +kernel
theorem dX12_sum_45 : decode cX12_sum 45 = .ok (.invokevirtual 293, 3) := by decide +kernel
theorem dX12_sum_48 : decode cX12_sum 48 = .ok (.aload_n 0, 1) := by decide +kernel
theorem dX12_sum_49 : decode cX12_sum 49 = .ok (.iload_n 1, 1) := by decide +kernel
theorem dX12_sum_50 : decode cX12_sum 50 = .ok (.iconst 0, 1) := by decide +kernel
theorem dX12_sum_51 : decode cX12_sum 51 = .ok (.invokevirtual 277, 3) := by decide +kernel
theorem dX12_sum_54 : decode cX12_sum 54 = .ok (.goto (-50), 3) := by decide +kernel
theorem dX12_sum_57 : decode cX12_sum 57 = .ok (.return_, 1) := by decide +kernel
theorem dX12_compared_0 : decode cX12_compared 0 = .ok (.aload_n 0, 1) := by decide +kernel
theorem dX12_compared_1 : decode cX12_compared 1 = .ok (.invokevirtual 296, 3) := by decide +kernel
theorem dX12_compared_4 : decode cX12_compared 4 = .ok (.aload_n 0, 1) := by decide +kernel
theorem dX12_compared_5 : decode cX12_compared 5 = .ok (.invokevirtual 271, 3) := by decide +kernel
theorem dX12_compared_8 : decode cX12_compared 8 = .ok (.istore_n 1, 1) := by decide +kernel
theorem dX12_compared_9 : decode cX12_compared 9 = .ok (.aload_n 0, 1) := by decide +kernel
theorem dX12_compared_10 : decode cX12_compared 10 = .ok (.getfield 262, 3) := by decide +kernel
theorem dX12_compared_13 : decode cX12_compared 13 = .ok (.ifCond .ge 21, 3) := by decide +kernel
theorem dX12_compared_16 : decode cX12_compared 16 = .ok (.iload_n 1, 1) := by decide +kernel
theorem dX12_compared_17 : decode cX12_compared 17 = .ok (.bipush 60, 2) := by decide +kernel
theorem dX12_compared_19 : decode cX12_compared 19 = .ok (.if_icmp .eq 16, 3) := by decide +kernel
theorem dX12_compared_22 : decode cX12_compared 22 = .ok (.iload_n 1, 1) := by decide +kernel
theorem dX12_compared_23 : decode cX12_compared 23 = .ok (.bipush 61, 2) := by decide +kernel
theorem dX12_compared_25 : decode cX12_compared 25 = .ok (.if_icmp .eq 10, 3) := by decide +kernel
theorem dX12_compared_28 : decode cX12_compared 28 = .ok (.iload_n 1, 1) := by decide +kernel
theorem dX12_compared_29 : decode cX12_compared 29 = .ok (.bipush 62, 2) := by decide +kernel
theorem dX12_compared_31 : decode cX12_compared 31 = .ok (.if_icmp .eq 4, 3) := by decide +kernel
theorem dX12_compared_34 : decode cX12_compared 34 = .ok (.return_, 1) := by decide +kernel
theorem dX12_compared_35 : decode cX12_compared 35 = .ok (.aload_n 0, 1) := by decide +kernel
theorem dX12_compared_36 : decode cX12_compared 36 = .ok (.dup, 1) := by decide +kernel
theorem dX12_compared_37 : decode cX12_compared 37 = .ok (.getfield 259, 3) := by decide +kernel
theorem dX12_compared_40 : decode cX12_compared 40 = .ok (.iconst 1, 1) := by decide +kernel
theorem dX12_compared_41 : decode cX12_compared 41 = .ok (.iadd, 1) := by decide +kernel
theorem dX12_compared_42 : decode cX12_compared 42 = .ok (.putfield 259, 3) := by decide +kernel
theorem dX12_compared_45 : decode cX12_compared 45 = .ok (.aload_n 0, 1) := by decide +kernel
theorem dX12_compared_46 : decode cX12_compared 46 = .ok (.invokevirtual 296, 3) := by decide +kernel
theorem dX12_compared_49 : decode cX12_compared 49 = .ok (.aload_n 0, 1) := by decide +kernel
theorem dX12_compared_50 : decode cX12_compared 50 = .ok (.iload_n 1, 1) := by decide +kernel
theorem dX12_compared_51 : decode cX12_compared 51 = .ok (.iconst 0, 1) := by decide +kernel
theorem dX12_compared_52 : decode cX12_compared 52 = .ok (.invokevirtual 277, 3) := by decide +kernel
theorem dX12_compared_55 : decode cX12_compared 55 = .ok (.return_, 1) := by decide +kernel
theorem dX12_all_0 : decode cX12_all 0 = .ok (.aload_n 0, 1) := by decide +kernel
theorem dX12_all_1 : decode cX12_all 1 = .ok (.invokevirtual 299, 3) := by decide +kernel
theorem dX12_all_4 : decode cX12_all 4 = .ok (.aload_n 0, 1) := by decide +kernel
theorem dX12_all_5 : decode cX12_all 5 = .ok (.getfield 262, 3) := by decide +kernel
theorem dX12_all_8 : decode cX12_all 8 = .ok (.ifCond .ge 36, 3) := by decide +kernel
theorem dX12_all_11 : decode cX12_all 11 = .ok (.aload_n 0, 1) := by decide +kernel
theorem dX12_all_12 : decode cX12_all 12 = .ok (.invokevirtual 271, 3) := by decide +kernel
theorem dX12_all_15 : decode cX12_all 15 = .ok (.bipush 38, 2) := by decide +kernel
theorem dX12_all_17 : decode cX12_all 17 = .ok (.if_icmp .ne 27, 3) := by decide +kernel
theorem dX12_all_20 : decode cX12_all 20 = .ok (.aload_n 0, 1) := by decide +kernel
theorem dX12_all_21 : decode cX12_all 21 = .ok (.dup, 1) := by decide +kernel
theorem dX12_all_22 : decode cX12_all 22 = .ok (.getfield 259, 3) := by decide +kernel
theorem dX12_all_25 : decode cX12_all 25 = .ok (.iconst 1, 1) := by decide +kernel
theorem dX12_all_26 : decode cX12_all 26 = .ok (.iadd, 1) := by decide +kernel
theorem dX12_all_27 : decode cX12_all 27 = .ok (.putfield 259, 3) := by decide +kernel
theorem dX12_all_30 : decode cX12_all 30 = .ok (.aload_n 0, 1) := by decide +kernel
theorem dX12_all_31 : decode cX12_all 31 = .ok (.invokevirtual 299, 3) := by decide +kernel
theorem dX12_all_34 : decode cX12_all 34 = .ok (.aload_n 0, 1) := by decide +kernel
theorem dX12_all_35 : decode cX12_all 35 = .ok (.bipush 38, 2) := by decide +kernel
theorem dX12_all_37 : decode cX12_all 37 = .ok (.iconst 0, 1) := by decide +kernel
theorem dX12_all_38 : decode cX12_all 38 = .ok (.invokevirtual 277, 3) := by decide +kernel
theorem dX12_all_41 : decode cX12_all 41 = .ok (.goto (-37), 3) := by decide +kernel
theorem dX12_all_44 : decode cX12_all 44 = .ok (.return_, 1) := by decide +kernel
theorem dX12_whole_0 : decode cX12_whole 0 = .ok (.aload_n 0, 1) := by decide +kernel
theorem dX12_whole_1 : decode cX12_whole 1 = .ok (.invokevirtual 302, 3) := by decide +kernel
theorem dX12_whole_4 : decode cX12_whole 4 = .ok (.aload_n 0, 1) := by decide +kernel
theorem dX12_whole_5 : decode cX12_whole 5 = .ok (.getfield 262, 3) := by decide +kernel
theorem dX12_whole_8 : decode cX12_whole 8 = .ok (.ifCond .ge 36, 3) := by decide +kernel
theorem dX12_whole_11 : decode cX12_whole 11 = .ok (.aload_n 0, 1) := by decide +kernel
theorem dX12_whole_12 : decode cX12_whole 12 = .ok (.invokevirtual 271, 3) := by decide +kernel
theorem dX12_whole_15 : decode cX12_whole 15 = .ok (.bipush 124, 2) := by decide +kernel
theorem dX12_whole_17 : decode cX12_whole 17 = .ok (.if_icmp .ne 27, 3) := by decide +kernel
theorem dX12_whole_20 : decode cX12_whole 20 = .ok (.aload_n 0, 1) := by decide +kernel
theorem dX12_whole_21 : decode cX12_whole 21 = .ok (.dup, 1) := by decide +kernel
theorem dX12_whole_22 : decode cX12_whole 22 = .ok (.getfield 259, 3) := by decide +kernel
theorem dX12_whole_25 : decode cX12_whole 25 = .ok (.iconst 1, 1) := by decide +kernel
theorem dX12_whole_26 : decode cX12_whole 26 = .ok (.iadd, 1) := by decide +kernel
theorem dX12_whole_27 : decode cX12_whole 27 = .ok (.putfield 259, 3) := by decide +kernel
theorem dX12_whole_30 : decode cX12_whole 30 = .ok (.aload_n 0, 1) := by decide +kernel
theorem dX12_whole_31 : decode cX12_whole 31 = .ok (.invokevirtual 302, 3) := by decide +kernel
theorem dX12_whole_34 : decode cX12_whole 34 = .ok (.aload_n 0, 1) := by decide +kernel
theorem dX12_whole_35 : decode cX12_whole 35 = .ok (.bipush 124, 2) := by decide +kernel
theorem dX12_whole_37 : decode cX12_whole 37 = .ok (.iconst 0, 1) := by decide +kernel
theorem dX12_whole_38 : decode cX12_whole 38 = .ok (.invokevirtual 277, 3) := by decide +kernel
theorem dX12_whole_41 : decode cX12_whole 41 = .ok (.goto (-37), 3) := by decide +kernel
theorem dX12_whole_44 : decode cX12_whole 44 = .ok (.return_, 1) := by decide +kernel
theorem dX12_clause_0 : decode cX12_clause 0 = .ok (.aload_n 0, 1) := by decide +kernel
theorem dX12_clause_1 : decode cX12_clause 1 = .ok (.invokevirtual 290, 3) := by decide +kernel
theorem dX12_clause_4 : decode cX12_clause 4 = .ok (.aload_n 0, 1) := by decide +kernel
theorem dX12_clause_5 : decode cX12_clause 5 = .ok (.getfield 262, 3) := by decide +kernel
theorem dX12_clause_8 : decode cX12_clause 8 = .ok (.ifCond .ge 32, 3) := by decide +kernel
theorem dX12_clause_11 : decode cX12_clause 11 = .ok (.aload_n 0, 1) := by decide +kernel
theorem dX12_clause_12 : decode cX12_clause 12 = .ok (.invokevirtual 271, 3) := by decide +kernel
theorem dX12_clause_15 : decode cX12_clause 15 = .ok (.bipush 44, 2) := by decide +kernel
theorem dX12_clause_17 : decode cX12_clause 17 = .ok (.if_icmp .ne 23, 3) := by decide +kernel
theorem dX12_clause_20 : decode cX12_clause 20 = .ok (.aload_n 0, 1) := by decide +kernel
theorem dX12_clause_21 : decode cX12_clause 21 = .ok (.iconst 3, 1) := by decide +kernel
theorem dX12_clause_22 : decode cX12_clause 22 = .ok (.iconst 0, 1) := by decide +kernel
theorem dX12_clause_23 : decode cX12_clause 23 = .ok (.invokevirtual 277, 3) := by decide +kernel
theorem dX12_clause_26 : decode cX12_clause 26 = .ok (.aload_n 0, 1) := by decide +kernel
theorem dX12_clause_27 : decode cX12_clause 27 = .ok (.dup, 1) := by decide +kernel
theorem dX12_clause_28 : decode cX12_clause 28 = .ok (.getfield 259, 3) := by decide +kernel
theorem dX12_clause_31 : decode cX12_clause 31 = .ok (.iconst 1, 1) := by decide +kernel
theorem dX12_clause_32 : decode cX12_clause 32 = .ok (.iadd, 1) := by decide +kernel
theorem dX12_clause_33 : decode cX12_clause 33 = .ok (.putfield 259, 3) := by decide +kernel
theorem dX12_clause_36 : decode cX12_clause 36 = .ok (.aload_n 0, 1) := by decide +kernel
theorem dX12_clause_37 : decode cX12_clause 37 = .ok (.invokevirtual 290, 3) := by decide +kernel
theorem dX12_clause_40 : decode cX12_clause 40 = .ok (.aload_n 0, 1) := by decide +kernel
theorem dX12_clause_41 : decode cX12_clause 41 = .ok (.iconst 4, 1) := by decide +kernel
theorem dX12_clause_42 : decode cX12_clause 42 = .ok (.iconst 0, 1) := by decide +kernel
theorem dX12_clause_43 : decode cX12_clause 43 = .ok (.invokevirtual 277, 3) := by decide +kernel
theorem dX12_clause_46 : decode cX12_clause 46 = .ok (.return_, 1) := by decide +kernel
theorem dX12_law_0 : decode cX12_law 0 = .ok (.iload_n 1, 1) := by decide +kernel
theorem dX12_law_1 : decode cX12_law 1 = .ok (.iconst 0, 1) := by decide +kernel
theorem dX12_law_2 : decode cX12_law 2 = .ok (.iconst 1, 1) := by decide +kernel
theorem dX12_law_3 : decode cX12_law 3 = .ok (.invokestatic 196, 3) := by decide +kernel
theorem dX12_law_6 : decode cX12_law 6 = .ok (.ifCond .eq 10, 3) := by decide +kernel
theorem dX12_law_9 : decode cX12_law 9 = .ok (.iload_n 2, 1) := by decide +kernel
theorem dX12_law_10 : decode cX12_law 10 = .ok (.invokestatic 220, 3) := by decide +kernel
theorem dX12_law_13 : decode cX12_law 13 = .ok (.ifCond .ne 5, 3) := by decide +kernel
theorem dX12_law_16 : decode cX12_law 16 = .ok (.iconst (-1), 1) := by decide +kernel
theorem dX12_law_17 : decode cX12_law 17 = .ok (.ireturn, 1) := by decide +kernel
theorem dX12_law_18 : decode cX12_law 18 = .ok (.aload_n 0, 1) := by decide +kernel
theorem dX12_law_19 : decode cX12_law 19 = .ok (.getfield 305, 3) := by decide +kernel
theorem dX12_law_22 : decode cX12_law 22 = .ok (.bipush 16, 2) := by decide +kernel
theorem dX12_law_24 : decode cX12_law 24 = .ok (.if_icmp .ne 6, 3) := by decide +kernel
theorem dX12_law_27 : decode cX12_law 27 = .ok (.bipush (-3), 2) := by decide +kernel
theorem dX12_law_29 : decode cX12_law 29 = .ok (.ireturn, 1) := by decide +kernel
theorem dX12_law_30 : decode cX12_law 30 = .ok (.aload_n 0, 1) := by decide +kernel
theorem dX12_law_31 : decode cX12_law 31 = .ok (.aload_n 0, 1) := by decide +kernel
theorem dX12_law_32 : decode cX12_law 32 = .ok (.getfield 305, 3) := by decide +kernel
theorem dX12_law_35 : decode cX12_law 35 = .ok (.putfield 265, 3) := by decide +kernel
theorem dX12_law_38 : decode cX12_law 38 = .ok (.aload_n 0, 1) := by decide +kernel
theorem dX12_law_39 : decode cX12_law 39 = .ok (.iconst 0, 1) := by decide +kernel
theorem dX12_law_40 : decode cX12_law 40 = .ok (.putfield 268, 3) := by decide +kernel
theorem dX12_law_43 : decode cX12_law 43 = .ok (.aload_n 0, 1) := by decide +kernel
theorem dX12_law_44 : decode cX12_law 44 = .ok (.iconst 0, 1) := by decide +kernel
theorem dX12_law_45 : decode cX12_law 45 = .ok (.putfield 259, 3) := by decide +kernel
theorem dX12_law_48 : decode cX12_law 48 = .ok (.aload_n 0, 1) := by decide +kernel
theorem dX12_law_49 : decode cX12_law 49 = .ok (.iconst (-1), 1) := by decide +kernel
theorem dX12_law_50 : decode cX12_law 50 = .ok (.putfield 262, 3) := by decide +kernel
theorem dX12_law_53 : decode cX12_law 53 = .ok (.aload_n 0, 1) := by decide +kernel
theorem dX12_law_54 : decode cX12_law 54 = .ok (.iconst 0, 1) := by decide +kernel
theorem dX12_law_55 : decode cX12_law 55 = .ok (.putfield 281, 3) := by decide +kernel
theorem dX12_law_58 : decode cX12_law 58 = .ok (.aload_n 0, 1) := by decide +kernel
theorem dX12_law_59 : decode cX12_law 59 = .ok (.invokevirtual 308, 3) := by decide +kernel
theorem dX12_law_62 : decode cX12_law 62 = .ok (.aload_n 0, 1) := by decide +kernel
theorem dX12_law_63 : decode cX12_law 63 = .ok (.getfield 262, 3) := by decide +kernel
theorem dX12_law_66 : decode cX12_law 66 = .ok (.ifCond .ge 29, 3) := by decide +kernel
theorem dX12_law_69 : decode cX12_law 69 = .ok (.aload_n 0, 1) := by decide +kernel
theorem dX12_law_70 : decode cX12_law 70 = .ok (.invokevirtual 271, 3) := by decide +kernel
theorem dX12_law_73 : decode cX12_law 73 = .ok (.bipush 59, 2) := by decide +kernel
theorem dX12_law_75 : decode cX12_law 75 = .ok (.if_icmp .ne 20, 3) := by decide +kernel
theorem dX12_law_78 : decode cX12_law 78 = .ok (.aload_n 0, 1) := by decide +kernel
theorem dX12_law_79 : decode cX12_law 79 = .ok (.dup, 1) := by decide +kernel
theorem dX12_law_80 : decode cX12_law 80 = .ok (.getfield 259, 3) := by decide +kernel
theorem dX12_law_83 : decode cX12_law 83 = .ok (.iconst 1, 1) := by decide +kernel
theorem dX12_law_84 : decode cX12_law 84 = .ok (.iadd, 1) := by decide +kernel
theorem dX12_law_85 : decode cX12_law 85 = .ok (.putfield 259, 3) := by decide +kernel
theorem dX12_law_88 : decode cX12_law 88 = .ok (.aload_n 0, 1) := by decide +kernel
theorem dX12_law_89 : decode cX12_law 89 = .ok (.invokevirtual 308, 3) := by decide +kernel
theorem dX12_law_92 : decode cX12_law 92 = .ok (.goto (-30), 3) := by decide +kernel
theorem dX12_law_95 : decode cX12_law 95 = .ok (.aload_n 0, 1) := by decide +kernel
theorem dX12_law_96 : decode cX12_law 96 = .ok (.getfield 259, 3) := by decide +kernel
theorem dX12_law_99 : decode cX12_law 99 = .ok (.aload_n 0, 1) := by decide +kernel
theorem dX12_law_100 : decode cX12_law 100 = .ok (.getfield 252, 3) := by decide +kernel
theorem dX12_law_103 : decode cX12_law 103 = .ok (.if_icmp .ge 7, 3) := by decide +kernel
theorem dX12_law_106 : decode cX12_law 106 = .ok (.aload_n 0, 1) := by decide +kernel
theorem dX12_law_107 : decode cX12_law 107 = .ok (.invokevirtual 284, 3) := by decide +kernel
theorem dX12_law_110 : decode cX12_law 110 = .ok (.aload_n 0, 1) := by decide +kernel
theorem dX12_law_111 : decode cX12_law 111 = .ok (.iconst 0, 1) := by decide +kernel
theorem dX12_law_112 : decode cX12_law 112 = .ok (.putfield 252, 3) := by decide +kernel
theorem dX12_law_115 : decode cX12_law 115 = .ok (.aload_n 0, 1) := by decide +kernel
theorem dX12_law_116 : decode cX12_law 116 = .ok (.getfield 262, 3) := by decide +kernel
theorem dX12_law_119 : decode cX12_law 119 = .ok (.ifCond .lt 11, 3) := by decide +kernel
theorem dX12_law_122 : decode cX12_law 122 = .ok (.bipush (-100), 2) := by decide +kernel
theorem dX12_law_124 : decode cX12_law 124 = .ok (.aload_n 0, 1) := by decide +kernel
theorem dX12_law_125 : decode cX12_law 125 = .ok (.getfield 262, 3) := by decide +kernel
theorem dX12_law_128 : decode cX12_law 128 = .ok (.isub, 1) := by decide +kernel
theorem dX12_law_129 : decode cX12_law 129 = .ok (.ireturn, 1) := by decide +kernel
theorem dX12_law_130 : decode cX12_law 130 = .ok (.aload_n 0, 1) := by decide +kernel
theorem dX12_law_131 : decode cX12_law 131 = .ok (.getfield 86, 3) := by decide +kernel
theorem dX12_law_134 : decode cX12_law 134 = .ok (.aload_n 0, 1) := by decide +kernel
theorem dX12_law_135 : decode cX12_law 135 = .ok (.getfield 305, 3) := by decide +kernel
theorem dX12_law_138 : decode cX12_law 138 = .ok (.iload_n 1, 1) := by decide +kernel
theorem dX12_law_139 : decode cX12_law 139 = .ok (.iastore, 1) := by decide +kernel
theorem dX12_law_140 : decode cX12_law 140 = .ok (.aload_n 0, 1) := by decide +kernel
theorem dX12_law_141 : decode cX12_law 141 = .ok (.getfield 89, 3) := by decide +kernel
theorem dX12_law_144 : decode cX12_law 144 = .ok (.aload_n 0, 1) := by decide +kernel
theorem dX12_law_145 : decode cX12_law 145 = .ok (.getfield 305, 3) := by decide +kernel
theorem dX12_law_148 : decode cX12_law 148 = .ok (.aload_n 0, 1) := by decide +kernel
theorem dX12_law_149 : decode cX12_law 149 = .ok (.invokevirtual 230, 3) := by decide +kernel
theorem dX12_law_152 : decode cX12_law 152 = .ok (.iastore, 1) := by decide +kernel
theorem dX12_law_153 : decode cX12_law 153 = .ok (.aload_n 0, 1) := by decide +kernel
theorem dX12_law_154 : decode cX12_law 154 = .ok (.getfield 92, 3) := by decide +kernel
theorem dX12_law_157 : decode cX12_law 157 = .ok (.aload_n 0, 1) := by decide +kernel
theorem dX12_law_158 : decode cX12_law 158 = .ok (.getfield 305, 3) := by decide +kernel
theorem dX12_law_161 : decode cX12_law 161 = .ok (.iload_n 2, 1) := by decide +kernel
theorem dX12_law_162 : decode cX12_law 162 = .ok (.iastore, 1) := by decide +kernel
theorem dX12_law_163 : decode cX12_law 163 = .ok (.aload_n 0, 1) := by decide +kernel
theorem dX12_law_164 : decode cX12_law 164 = .ok (.getfield 95, 3) := by decide +kernel
theorem dX12_law_167 : decode cX12_law 167 = .ok (.aload_n 0, 1) := by decide +kernel
theorem dX12_law_168 : decode cX12_law 168 = .ok (.getfield 305, 3) := by decide +kernel
theorem dX12_law_171 : decode cX12_law 171 = .ok (.aload_n 0, 1) := by decide +kernel
theorem dX12_law_172 : decode cX12_law 172 = .ok (.getfield 268, 3) := by decide +kernel
theorem dX12_law_175 : decode cX12_law 175 = .ok (.iastore, 1) := by decide +kernel
theorem dX12_law_176 : decode cX12_law 176 = .ok (.aload_n 0, 1) := by decide +kernel
theorem dX12_law_177 : decode cX12_law 177 = .ok (.dup, 1) := by decide +kernel
theorem dX12_law_178 : decode cX12_law 178 = .ok (.getfield 305, 3) := by decide +kernel
theorem dX12_law_181 : decode cX12_law 181 = .ok (.iconst 1, 1) := by decide +kernel
theorem dX12_law_182 : decode cX12_law 182 = .ok (.iadd, 1) := by decide +kernel
theorem dX12_law_183 : decode cX12_law 183 = .ok (.putfield 305, 3) := by decide +kernel
theorem dX12_law_186 : decode cX12_law 186 = .ok (.aload_n 0, 1) := by decide +kernel
theorem dX12_law_187 : decode cX12_law 187 = .ok (.getfield 305, 3) := by decide +kernel
theorem dX12_law_190 : decode cX12_law 190 = .ok (.iconst 1, 1) := by decide +kernel
theorem dX12_law_191 : decode cX12_law 191 = .ok (.isub, 1) := by decide +kernel
theorem dX12_law_192 : decode cX12_law 192 = .ok (.ireturn, 1) := by decide +kernel
theorem dX12_forceOn_0 : decode cX12_forceOn 0 = .ok (.aload_n 0, 1) := by decide +kernel
theorem dX12_forceOn_1 : decode cX12_forceOn 1 = .ok (.getfield 305, 3) := by decide +kernel
theorem dX12_forceOn_4 : decode cX12_forceOn 4 = .ok (.iconst 1, 1) := by decide +kernel
theorem dX12_forceOn_5 : decode cX12_forceOn 5 = .ok (.isub, 1) := by decide +kernel
theorem dX12_forceOn_6 : decode cX12_forceOn 6 = .ok (.istore 4, 2) := by decide +kernel
theorem dX12_forceOn_8 : decode cX12_forceOn 8 = .ok (.iload 4, 2) := by decide +kernel
theorem dX12_forceOn_10 : decode cX12_forceOn 10 = .ok (.ifCond .lt 45, 3) := by decide +kernel
theorem dX12_forceOn_13 : decode cX12_forceOn 13 = .ok (.aload_n 0, 1) := by decide +kernel
theorem dX12_forceOn_14 : decode cX12_forceOn 14 = .ok (.getfield 86, 3) := by decide +kernel
theorem dX12_forceOn_17 : decode cX12_forceOn 17 = .ok (.iload 4, 2) := by decide +kernel
theorem dX12_forceOn_19 : decode cX12_forceOn 19 = .ok (.iaload, 1) := by decide +kernel
theorem dX12_forceOn_20 : decode cX12_forceOn 20 = .ok (.iload_n 1, 1) := by decide +kernel
theorem dX12_forceOn_21 : decode cX12_forceOn 21 = .ok (.if_icmp .ne 28, 3) := by decide +kernel
theorem dX12_forceOn_24 : decode cX12_forceOn 24 = .ok (.aload_n 0, 1) := by decide +kernel
theorem dX12_forceOn_25 : decode cX12_forceOn 25 = .ok (.getfield 89, 3) := by decide +kernel
theorem dX12_forceOn_28 : decode cX12_forceOn 28 = .ok (.iload 4, 2) := by decide +kernel
theorem dX12_forceOn_30 : decode cX12_forceOn 30 = .ok (.iaload, 1) := by decide +kernel
theorem dX12_forceOn_31 : decode cX12_forceOn 31 = .ok (.iload_n 3, 1) := by decide +kernel
theorem dX12_forceOn_32 : decode cX12_forceOn 32 = .ok (.if_icmp .gt 17, 3) := by decide +kernel
theorem dX12_forceOn_35 : decode cX12_forceOn 35 = .ok (.aload_n 0, 1) := by decide +kernel
theorem dX12_forceOn_36 : decode cX12_forceOn 36 = .ok (.getfield 92, 3) := by decide +kernel
theorem dX12_forceOn_39 : decode cX12_forceOn 39 = .ok (.iload 4, 2) := by decide +kernel
theorem dX12_forceOn_41 : decode cX12_forceOn 41 = .ok (.iaload, 1) := by decide +kernel
theorem dX12_forceOn_42 : decode cX12_forceOn 42 = .ok (.iload_n 2, 1) := by decide +kernel
theorem dX12_forceOn_43 : decode cX12_forceOn 43 = .ok (.if_icmp .gt 6, 3) := by decide +kernel
theorem dX12_forceOn_46 : decode cX12_forceOn 46 = .ok (.iload 4, 2) := by decide +kernel
theorem dX12_forceOn_48 : decode cX12_forceOn 48 = .ok (.ireturn, 1) := by decide +kernel
theorem dX12_forceOn_49 : decode cX12_forceOn 49 = .ok (.iinc 4 (-1), 3) := by decide +kernel
theorem dX12_forceOn_52 : decode cX12_forceOn 52 = .ok (.goto (-44), 3) := by decide +kernel
theorem dX12_forceOn_55 : decode cX12_forceOn 55 = .ok (.bipush (-2), 2) := by decide +kernel
theorem dX12_forceOn_57 : decode cX12_forceOn 57 = .ok (.ireturn, 1) := by decide +kernel
theorem dX12_inForce_0 : decode cX12_inForce 0 = .ok (.iload_n 1, 1) := by decide +kernel
theorem dX12_inForce_1 : decode cX12_inForce 1 = .ok (.iconst 0, 1) := by decide +kernel
theorem dX12_inForce_2 : decode cX12_inForce 2 = .ok (.iconst 1, 1) := by decide +kernel
theorem dX12_inForce_3 : decode cX12_inForce 3 = .ok (.invokestatic 196, 3) := by decide +kernel
theorem dX12_inForce_6 : decode cX12_inForce 6 = .ok (.ifCond .eq 27, 3) := by decide +kernel
theorem dX12_inForce_9 : decode cX12_inForce 9 = .ok (.iload_n 2, 1) := by decide +kernel
theorem dX12_inForce_10 : decode cX12_inForce 10 = .ok (.invokestatic 220, 3) := by decide +kernel
theorem dX12_inForce_13 : decode cX12_inForce 13 = .ok (.ifCond .eq 20, 3) := by decide +kernel
theorem dX12_inForce_16 : decode cX12_inForce 16 = .ok (.iload_n 3, 1) := by decide +kernel
theorem dX12_inForce_17 : decode cX12_inForce 17 = .ok (.invokestatic 220, 3) := by decide +kernel
theorem dX12_inForce_20 : decode cX12_inForce 20 = .ok (.ifCond .eq 13, 3) := by decide +kernel
theorem dX12_inForce_23 : decode cX12_inForce 23 = .ok (.aload_n 0, 1) := by decide +kernel
theorem dX12_inForce_24 : decode cX12_inForce 24 = .ok (.iload_n 1, 1) := by decide +kernel
theorem dX12_inForce_25 : decode cX12_inForce 25 = .ok (.iload_n 2, 1) := by decide +kernel
theorem dX12_inForce_26 : decode cX12_inForce 26 = .ok (.iload_n 3, 1) := by decide +kernel
theorem dX12_inForce_27 : decode cX12_inForce 27 = .ok (.invokevirtual 311, 3) := by decide +kernel
theorem dX12_inForce_30 : decode cX12_inForce 30 = .ok (.goto 4, 3) := by decide +kernel
theorem dX12_inForce_33 : decode cX12_inForce 33 = .ok (.iconst (-1), 1) := by decide +kernel
theorem dX12_inForce_34 : decode cX12_inForce 34 = .ok (.ireturn, 1) := by decide +kernel
theorem dX12_named_0 : decode cX12_named 0 = .ok (.aload_n 0, 1) := by decide +kernel
theorem dX12_named_1 : decode cX12_named 1 = .ok (.getfield 43, 3) := by decide +kernel
theorem dX12_named_4 : decode cX12_named 4 = .ok (.iload_n 2, 1) := by decide +kernel
theorem dX12_named_5 : decode cX12_named 5 = .ok (.iaload, 1) := by decide +kernel
theorem dX12_named_6 : decode cX12_named 6 = .ok (.istore_n 3, 1) := by decide +kernel
theorem dX12_named_7 : decode cX12_named 7 = .ok (.aload_n 0, 1) := by decide +kernel
theorem dX12_named_8 : decode cX12_named 8 = .ok (.getfield 46, 3) := by decide +kernel
theorem dX12_named_11 : decode cX12_named 11 = .ok (.iload_n 2, 1) := by decide +kernel
theorem dX12_named_12 : decode cX12_named 12 = .ok (.iaload, 1) := by decide +kernel
theorem dX12_named_13 : decode cX12_named 13 = .ok (.istore 4, 2) := by decide +kernel
theorem dX12_named_15 : decode cX12_named 15 = .ok (.iload_n 1, 1) := by decide +kernel
theorem dX12_named_16 : decode cX12_named 16 = .ok (.tableswitch 108 0 6 #[44, 56, 59, 67, 77, 82, 95], 44) := by decide +kernel
theorem dX12_named_60 : decode cX12_named 60 = .ok (.aload_n 0, 1) := by decide +kernel
theorem dX12_named_61 : decode cX12_named 61 = .ok (.invokevirtual 230, 3) := by decide +kernel
theorem dX12_named_64 : decode cX12_named 64 = .ok (.aload_n 0, 1) := by decide +kernel
theorem dX12_named_65 : decode cX12_named 65 = .ok (.getfield 52, 3) := by decide +kernel
theorem dX12_named_68 : decode cX12_named 68 = .ok (.iload_n 2, 1) := by decide +kernel
theorem dX12_named_69 : decode cX12_named 69 = .ok (.iaload, 1) := by decide +kernel
theorem dX12_named_70 : decode cX12_named 70 = .ok (.isub, 1) := by decide +kernel
theorem dX12_named_71 : decode cX12_named 71 = .ok (.ireturn, 1) := by decide +kernel
theorem dX12_named_72 : decode cX12_named 72 = .ok (.iload 4, 2) := by decide +kernel
theorem dX12_named_74 : decode cX12_named 74 = .ok (.ireturn, 1) := by decide +kernel
theorem dX12_named_75 : decode cX12_named 75 = .ok (.aload_n 0, 1) := by decide +kernel
theorem dX12_named_76 : decode cX12_named 76 = .ok (.getfield 28, 3) := by decide +kernel
theorem dX12_named_79 : decode cX12_named 79 = .ok (.iload 4, 2) := by decide +kernel
theorem dX12_named_81 : decode cX12_named 81 = .ok (.iaload, 1) := by decide +kernel
theorem dX12_named_82 : decode cX12_named 82 = .ok (.ireturn, 1) := by decide +kernel
theorem dX12_named_83 : decode cX12_named 83 = .ok (.aload_n 0, 1) := by decide +kernel
theorem dX12_named_84 : decode cX12_named 84 = .ok (.getfield 34, 3) := by decide +kernel
theorem dX12_named_87 : decode cX12_named 87 = .ok (.aload_n 0, 1) := by decide +kernel
theorem dX12_named_88 : decode cX12_named 88 = .ok (.invokevirtual 230, 3) := by decide +kernel
theorem dX12_named_91 : decode cX12_named 91 = .ok (.iaload, 1) := by decide +kernel
theorem dX12_named_92 : decode cX12_named 92 = .ok (.ireturn, 1) := by decide +kernel
theorem dX12_named_93 : decode cX12_named 93 = .ok (.aload_n 0, 1) := by decide +kernel
theorem dX12_named_94 : decode cX12_named 94 = .ok (.invokevirtual 315, 3) := by decide +kernel
theorem dX12_named_97 : decode cX12_named 97 = .ok (.ireturn, 1) := by decide +kernel
theorem dX12_named_98 : decode cX12_named 98 = .ok (.aload_n 0, 1) := by decide +kernel
theorem dX12_named_99 : decode cX12_named 99 = .ok (.getfield 37, 3) := by decide +kernel
theorem dX12_named_102 : decode cX12_named 102 = .ok (.bipush 10, 2) := by decide +kernel
theorem dX12_named_104 : decode cX12_named 104 = .ok (.iload_n 3, 1) := by decide +kernel
theorem dX12_named_105 : decode cX12_named 105 = .ok (.imul, 1) := by decide +kernel
theorem dX12_named_106 : decode cX12_named 106 = .ok (.iload 4, 2) := by decide +kernel
theorem dX12_named_108 : decode cX12_named 108 = .ok (.iadd, 1) := by decide +kernel
theorem dX12_named_109 : decode cX12_named 109 = .ok (.iaload, 1) := by decide +kernel
theorem dX12_named_110 : decode cX12_named 110 = .ok (.ireturn, 1) := by decide +kernel
theorem dX12_named_111 : decode cX12_named 111 = .ok (.aload_n 0, 1) := by decide +kernel
theorem dX12_named_112 : decode cX12_named 112 = .ok (.getfield 40, 3) := by decide +kernel
theorem dX12_named_115 : decode cX12_named 115 = .ok (.bipush 10, 2) := by decide +kernel
theorem dX12_named_117 : decode cX12_named 117 = .ok (.iload_n 3, 1) := by decide +kernel
theorem dX12_named_118 : decode cX12_named 118 = .ok (.imul, 1) := by decide +kernel
theorem dX12_named_119 : decode cX12_named 119 = .ok (.iload 4, 2) := by decide +kernel
theorem dX12_named_121 : decode cX12_named 121 = .ok (.iadd, 1) := by decide +kernel
theorem dX12_named_122 : decode cX12_named 122 = .ok (.iaload, 1) := by decide +kernel
theorem dX12_named_123 : decode cX12_named 123 = .ok (.ireturn, 1) := by decide +kernel
theorem dX12_named_124 : decode cX12_named 124 = .ok (.iload_n 3, 1) := by decide +kernel
theorem dX12_named_125 : decode cX12_named 125 = .ok (.ireturn, 1) := by decide +kernel
theorem dX12_both_0 : decode cX12_both 0 = .ok (.iload_n 0, 1) := by decide +kernel
theorem dX12_both_1 : decode cX12_both 1 = .ok (.tableswitch 196 38 62 #[182, 196, 196, 196, 123, 115, 196, 119, 196, 127, 196, 196, 196, 196, 196, 196, 196, 196, 196, 196, 196, 196, 149, 160, 171], 115) := by decide +kernel
theorem dX12_both_116 : decode cX12_both 116 = .ok (.iload_n 1, 1) := by decide +kernel
theorem dX12_both_117 : decode cX12_both 117 = .ok (.iload_n 2, 1) := by decide +kernel
theorem dX12_both_118 : decode cX12_both 118 = .ok (.iadd, 1) := by decide +kernel
theorem dX12_both_119 : decode cX12_both 119 = .ok (.ireturn, 1) := by decide +kernel
theorem dX12_both_120 : decode cX12_both 120 = .ok (.iload_n 1, 1) := by decide +kernel
theorem dX12_both_121 : decode cX12_both 121 = .ok (.iload_n 2, 1) := by decide +kernel
theorem dX12_both_122 : decode cX12_both 122 = .ok (.isub, 1) := by decide +kernel
theorem dX12_both_123 : decode cX12_both 123 = .ok (.ireturn, 1) := by decide +kernel
theorem dX12_both_124 : decode cX12_both 124 = .ok (.iload_n 1, 1) := by decide +kernel
theorem dX12_both_125 : decode cX12_both 125 = .ok (.iload_n 2, 1) := by decide +kernel
theorem dX12_both_126 : decode cX12_both 126 = .ok (.imul, 1) := by decide +kernel
theorem dX12_both_127 : decode cX12_both 127 = .ok (.ireturn, 1) := by decide +kernel
theorem dX12_both_128 : decode cX12_both 128 = .ok (.iload_n 2, 1) := by decide +kernel
theorem dX12_both_129 : decode cX12_both 129 = .ok (.ifCond .ne 7, 3) := by decide +kernel
theorem dX12_both_132 : decode cX12_both 132 = .ok (.iconst 0, 1) := by decide +kernel
theorem dX12_both_133 : decode cX12_both 133 = .ok (.goto 16, 3) := by decide +kernel
theorem dX12_both_136 : decode cX12_both 136 = .ok (.iload_n 2, 1) := by decide +kernel
theorem dX12_both_137 : decode cX12_both 137 = .ok (.iconst (-1), 1) := by decide +kernel
theorem dX12_both_138 : decode cX12_both 138 = .ok (.if_icmp .ne 8, 3) := by decide +kernel
theorem dX12_both_141 : decode cX12_both 141 = .ok (.iload_n 1, 1) := by decide +kernel
theorem dX12_both_142 : decode cX12_both 142 = .ok (.ineg, 1) := by decide +kernel
theorem dX12_both_143 : decode cX12_both 143 = .ok (.goto 6, 3) := by decide +kernel
theorem dX12_both_146 : decode cX12_both 146 = .ok (.iload_n 1, 1) := by decide +kernel
theorem dX12_both_147 : decode cX12_both 147 = .ok (.iload_n 2, 1) := by decide +kernel
theorem dX12_both_148 : decode cX12_both 148 = .ok (.idiv, 1) := by decide +kernel
theorem dX12_both_149 : decode cX12_both 149 = .ok (.ireturn, 1) := by decide +kernel
theorem dX12_both_150 : decode cX12_both 150 = .ok (.iload_n 1, 1) := by decide +kernel
theorem dX12_both_151 : decode cX12_both 151 = .ok (.iload_n 2, 1) := by decide +kernel
theorem dX12_both_152 : decode cX12_both 152 = .ok (.if_icmp .ge 7, 3) := by decide +kernel
theorem dX12_both_155 : decode cX12_both 155 = .ok (.iconst 1, 1) := by decide +kernel
theorem dX12_both_156 : decode cX12_both 156 = .ok (.goto 4, 3) := by decide +kernel
theorem dX12_both_159 : decode cX12_both 159 = .ok (.iconst 0, 1) := by decide +kernel
theorem dX12_both_160 : decode cX12_both 160 = .ok (.ireturn, 1) := by decide +kernel
theorem dX12_both_161 : decode cX12_both 161 = .ok (.iload_n 1, 1) := by decide +kernel
theorem dX12_both_162 : decode cX12_both 162 = .ok (.iload_n 2, 1) := by decide +kernel
theorem dX12_both_163 : decode cX12_both 163 = .ok (.if_icmp .ne 7, 3) := by decide +kernel
theorem dX12_both_166 : decode cX12_both 166 = .ok (.iconst 1, 1) := by decide +kernel
theorem dX12_both_167 : decode cX12_both 167 = .ok (.goto 4, 3) := by decide +kernel
theorem dX12_both_170 : decode cX12_both 170 = .ok (.iconst 0, 1) := by decide +kernel
theorem dX12_both_171 : decode cX12_both 171 = .ok (.ireturn, 1) := by decide +kernel
theorem dX12_both_172 : decode cX12_both 172 = .ok (.iload_n 1, 1) := by decide +kernel
theorem dX12_both_173 : decode cX12_both 173 = .ok (.iload_n 2, 1) := by decide +kernel
theorem dX12_both_174 : decode cX12_both 174 = .ok (.if_icmp .le 7, 3) := by decide +kernel
theorem dX12_both_177 : decode cX12_both 177 = .ok (.iconst 1, 1) := by decide +kernel
theorem dX12_both_178 : decode cX12_both 178 = .ok (.goto 4, 3) := by decide +kernel
theorem dX12_both_181 : decode cX12_both 181 = .ok (.iconst 0, 1) := by decide +kernel
theorem dX12_both_182 : decode cX12_both 182 = .ok (.ireturn, 1) := by decide +kernel
theorem dX12_both_183 : decode cX12_both 183 = .ok (.iload_n 1, 1) := by decide +kernel
theorem dX12_both_184 : decode cX12_both 184 = .ok (.ifCond .eq 11, 3) := by decide +kernel
theorem dX12_both_187 : decode cX12_both 187 = .ok (.iload_n 2, 1) := by decide +kernel
theorem dX12_both_188 : decode cX12_both 188 = .ok (.ifCond .eq 7, 3) := by decide +kernel
theorem dX12_both_191 : decode cX12_both 191 = .ok (.iconst 1, 1) := by decide +kernel
theorem dX12_both_192 : decode cX12_both 192 = .ok (.goto 4, 3) := by decide +kernel
theorem dX12_both_195 : decode cX12_both 195 = .ok (.iconst 0, 1) := by decide +kernel
theorem dX12_both_196 : decode cX12_both 196 = .ok (.ireturn, 1) := by decide +kernel
theorem dX12_both_197 : decode cX12_both 197 = .ok (.iload_n 1, 1) := by decide +kernel
theorem dX12_both_198 : decode cX12_both 198 = .ok (.ifCond .ne 7, 3) := by decide +kernel
theorem dX12_both_201 : decode cX12_both 201 = .ok (.iload_n 2, 1) := by decide +kernel
theorem dX12_both_202 : decode cX12_both 202 = .ok (.ifCond .eq 7, 3) := by decide +kernel
theorem dX12_both_205 : decode cX12_both 205 = .ok (.iconst 1, 1) := by decide +kernel
theorem dX12_both_206 : decode cX12_both 206 = .ok (.goto 4, 3) := by decide +kernel
theorem dX12_both_209 : decode cX12_both 209 = .ok (.iconst 0, 1) := by decide +kernel
theorem dX12_both_210 : decode cX12_both 210 = .ok (.ireturn, 1) := by decide +kernel
theorem dX12_gives_0 : decode cX12_gives 0 = .ok (.iconst 0, 1) := by decide +kernel
theorem dX12_gives_1 : decode cX12_gives 1 = .ok (.istore_n 3, 1) := by decide +kernel
theorem dX12_gives_2 : decode cX12_gives 2 = .ok (.iconst 0, 1) := by decide +kernel
theorem dX12_gives_3 : decode cX12_gives 3 = .ok (.istore 4, 2) := by decide +kernel
theorem dX12_gives_5 : decode cX12_gives 5 = .ok (.sipush 170, 3) := by decide +kernel
theorem dX12_gives_8 : decode cX12_gives 8 = .ok (.iload_n 1, 1) := by decide +kernel
theorem dX12_gives_9 : decode cX12_gives 9 = .ok (.imul, 1) := by decide +kernel
theorem dX12_gives_10 : decode cX12_gives 10 = .ok (.istore 5, 2) := by decide +kernel
theorem dX12_gives_12 : decode cX12_gives 12 = .ok (.iload 5, 2) := by decide +kernel
theorem dX12_gives_14 : decode cX12_gives 14 = .ok (.sipush 170, 3) := by decide +kernel
theorem dX12_gives_17 : decode cX12_gives 17 = .ok (.iload_n 1, 1) := by decide +kernel
theorem dX12_gives_18 : decode cX12_gives 18 = .ok (.imul, 1) := by decide +kernel
theorem dX12_gives_19 : decode cX12_gives 19 = .ok (.aload_n 0, 1) := by decide +kernel
theorem dX12_gives_20 : decode cX12_gives 20 = .ok (.getfield 95, 3) := by decide +kernel
theorem dX12_gives_23 : decode cX12_gives 23 = .ok (.iload_n 1, 1) := by decide +kernel
theorem dX12_gives_24 : decode cX12_gives 24 = .ok (.iaload, 1) := by decide +kernel
theorem dX12_gives_25 : decode cX12_gives 25 = .ok (.iadd, 1) := by decide +kernel
theorem dX12_gives_26 : decode cX12_gives 26 = .ok (.if_icmp .ge 186, 3) := by decide +kernel
theorem dX12_gives_29 : decode cX12_gives 29 = .ok (.aload_n 0, 1) := by decide +kernel
theorem dX12_gives_30 : decode cX12_gives 30 = .ok (.getfield 98, 3) := by decide +kernel
theorem dX12_gives_33 : decode cX12_gives 33 = .ok (.iload 5, 2) := by decide +kernel
theorem dX12_gives_35 : decode cX12_gives 35 = .ok (.iaload, 1) := by decide +kernel
theorem dX12_gives_36 : decode cX12_gives 36 = .ok (.istore 6, 2) := by decide +kernel
theorem dX12_gives_38 : decode cX12_gives 38 = .ok (.iload 6, 2) := by decide +kernel
theorem dX12_gives_40 : decode cX12_gives 40 = .ok (.iconst 1, 1) := by decide +kernel
theorem dX12_gives_41 : decode cX12_gives 41 = .ok (.if_icmp .eq 9, 3) := by decide +kernel
theorem dX12_gives_44 : decode cX12_gives 44 = .ok (.iload 6, 2) := by decide +kernel
theorem dX12_gives_46 : decode cX12_gives 46 = .ok (.iconst 2, 1) := by decide +kernel
theorem dX12_gives_47 : decode cX12_gives 47 = .ok (.if_icmp .ne 43, 3) := by decide +kernel
theorem dX12_gives_50 : decode cX12_gives 50 = .ok (.aload_n 0, 1) := by decide +kernel
theorem dX12_gives_51 : decode cX12_gives 51 = .ok (.getfield 104, 3) := by decide +kernel
theorem dX12_gives_54 : decode cX12_gives 54 = .ok (.iload_n 3, 1) := by decide +kernel
theorem dX12_gives_55 : decode cX12_gives 55 = .ok (.iload 6, 2) := by decide +kernel
theorem dX12_gives_57 : decode cX12_gives 57 = .ok (.iconst 1, 1) := by decide +kernel
theorem dX12_gives_58 : decode cX12_gives 58 = .ok (.if_icmp .ne 13, 3) := by decide +kernel
theorem dX12_gives_61 : decode cX12_gives 61 = .ok (.aload_n 0, 1) := by decide +kernel
theorem dX12_gives_62 : decode cX12_gives 62 = .ok (.getfield 101, 3) := by decide +kernel
theorem dX12_gives_65 : decode cX12_gives 65 = .ok (.iload 5, 2) := by decide +kernel
theorem dX12_gives_67 : decode cX12_gives 67 = .ok (.iaload, 1) := by decide +kernel
theorem dX12_gives_68 : decode cX12_gives 68 = .ok (.goto 15, 3) := by decide +kernel
theorem dX12_gives_71 : decode cX12_gives 71 = .ok (.aload_n 0, 1) := by decide +kernel
theorem dX12_gives_72 : decode cX12_gives 72 = .ok (.aload_n 0, 1) := by decide +kernel
theorem dX12_gives_73 : decode cX12_gives 73 = .ok (.getfield 101, 3) := by decide +kernel
theorem dX12_gives_76 : decode cX12_gives 76 = .ok (.iload 5, 2) := by decide +kernel
theorem dX12_gives_78 : decode cX12_gives 78 = .ok (.iaload, 1) := by decide +kernel
theorem dX12_gives_79 : decode cX12_gives 79 = .ok (.iload_n 2, 1) := by decide +kernel
theorem dX12_gives_80 : decode cX12_gives 80 = .ok (.invokevirtual 318, 3) := by decide +kernel
theorem dX12_gives_83 : decode cX12_gives 83 = .ok (.iastore, 1) := by decide +kernel
theorem dX12_gives_84 : decode cX12_gives 84 = .ok (.iinc 3 1, 3) := by decide +kernel
theorem dX12_gives_87 : decode cX12_gives 87 = .ok (.goto 119, 3) := by decide +kernel
theorem dX12_gives_90 : decode cX12_gives 90 = .ok (.iload 6, 2) := by decide +kernel
theorem dX12_gives_92 : decode cX12_gives 92 = .ok (.iconst 3, 1) := by decide +kernel
theorem dX12_gives_93 : decode cX12_gives 93 = .ok (.if_icmp .ne 24, 3) := by decide +kernel
theorem dX12_gives_96 : decode cX12_gives 96 = .ok (.aload_n 0, 1) := by decide +kernel
theorem dX12_gives_97 : decode cX12_gives 97 = .ok (.getfield 104, 3) := by decide +kernel
theorem dX12_gives_100 : decode cX12_gives 100 = .ok (.iconst 0, 1) := by decide +kernel
theorem dX12_gives_101 : decode cX12_gives 101 = .ok (.iaload, 1) := by decide +kernel
theorem dX12_gives_102 : decode cX12_gives 102 = .ok (.ifCond .ne 7, 3) := by decide +kernel
theorem dX12_gives_105 : decode cX12_gives 105 = .ok (.iconst 1, 1) := by decide +kernel
theorem dX12_gives_106 : decode cX12_gives 106 = .ok (.goto 4, 3) := by decide +kernel
theorem dX12_gives_109 : decode cX12_gives 109 = .ok (.iconst 0, 1) := by decide +kernel
theorem dX12_gives_110 : decode cX12_gives 110 = .ok (.istore 4, 2) := by decide +kernel
theorem dX12_gives_112 : decode cX12_gives 112 = .ok (.iconst 0, 1) := by decide +kernel
theorem dX12_gives_113 : decode cX12_gives 113 = .ok (.istore_n 3, 1) := by decide +kernel
theorem dX12_gives_114 : decode cX12_gives 114 = .ok (.goto 92, 3) := by decide +kernel
theorem dX12_gives_117 : decode cX12_gives 117 = .ok (.iload 6, 2) := by decide +kernel
theorem dX12_gives_119 : decode cX12_gives 119 = .ok (.iconst 4, 1) := by decide +kernel
theorem dX12_gives_120 : decode cX12_gives 120 = .ok (.if_icmp .ne 23, 3) := by decide +kernel
theorem dX12_gives_123 : decode cX12_gives 123 = .ok (.iload 4, 2) := by decide +kernel
theorem dX12_gives_125 : decode cX12_gives 125 = .ok (.ifCond .ne 10, 3) := by decide +kernel
theorem dX12_gives_128 : decode cX12_gives 128 = .ok (.aload_n 0, 1) := by decide +kernel
theorem dX12_gives_129 : decode cX12_gives 129 = .ok (.getfield 104, 3) := by decide +kernel
theorem dX12_gives_132 : decode cX12_gives 132 = .ok (.iconst 0, 1) := by decide +kernel
theorem dX12_gives_133 : decode cX12_gives 133 = .ok (.iaload, 1) := by decide +kernel
theorem dX12_gives_134 : decode cX12_gives 134 = .ok (.ireturn, 1) := by decide +kernel
theorem dX12_gives_135 : decode cX12_gives 135 = .ok (.iconst 0, 1) := by decide +kernel
theorem dX12_gives_136 : decode cX12_gives 136 = .ok (.istore 4, 2) := by decide +kernel
theorem dX12_gives_138 : decode cX12_gives 138 = .ok (.iconst 0, 1) := by decide +kernel
theorem dX12_gives_139 : decode cX12_gives 139 = .ok (.istore_n 3, 1) := by decide +kernel
theorem dX12_gives_140 : decode cX12_gives 140 = .ok (.goto 66, 3) := by decide +kernel
theorem dX12_gives_143 : decode cX12_gives 143 = .ok (.iload 6, 2) := by decide +kernel
theorem dX12_gives_145 : decode cX12_gives 145 = .ok (.iconst 5, 1) := by decide +kernel
theorem dX12_gives_146 : decode cX12_gives 146 = .ok (.if_icmp .ne 30, 3) := by decide +kernel
theorem dX12_gives_149 : decode cX12_gives 149 = .ok (.aload_n 0, 1) := by decide +kernel
theorem dX12_gives_150 : decode cX12_gives 150 = .ok (.getfield 104, 3) := by decide +kernel
theorem dX12_gives_153 : decode cX12_gives 153 = .ok (.iload_n 3, 1) := by decide +kernel
theorem dX12_gives_154 : decode cX12_gives 154 = .ok (.iconst 1, 1) := by decide +kernel
theorem dX12_gives_155 : decode cX12_gives 155 = .ok (.isub, 1) := by decide +kernel
theorem dX12_gives_156 : decode cX12_gives 156 = .ok (.aload_n 0, 1) := by decide +kernel
theorem dX12_gives_157 : decode cX12_gives 157 = .ok (.getfield 104, 3) := by decide +kernel
theorem dX12_gives_160 : decode cX12_gives 160 = .ok (.iload_n 3, 1) := by decide +kernel
theorem dX12_gives_161 : decode cX12_gives 161 = .ok (.iconst 1, 1) := by decide +kernel
theorem dX12_gives_162 : decode cX12_gives 162 = .ok (.isub, 1) := by decide +kernel
theorem dX12_gives_163 : decode cX12_gives 163 = .ok (.iaload, 1) := by decide +kernel
theorem dX12_gives_164 : decode cX12_gives 164 = .ok (.ifCond .ne 7, 3) := by decide +kernel
theorem dX12_gives_167 : decode cX12_gives 167 = .ok (.iconst 1, 1) := by decide +kernel
theorem dX12_gives_168 : decode cX12_gives 168 = .ok (.goto 4, 3) := by decide +kernel
theorem dX12_gives_171 : decode cX12_gives 171 = .ok (.iconst 0, 1) := by decide +kernel
theorem dX12_gives_172 : decode cX12_gives 172 = .ok (.iastore, 1) := by decide +kernel
theorem dX12_gives_173 : decode cX12_gives 173 = .ok (.goto 33, 3) := by decide +kernel
theorem dX12_gives_176 : decode cX12_gives 176 = .ok (.iinc 3 (-1), 3) := by decide +kernel
theorem dX12_gives_179 : decode cX12_gives 179 = .ok (.aload_n 0, 1) := by decide +kernel
theorem dX12_gives_180 : decode cX12_gives 180 = .ok (.getfield 104, 3) := by decide +kernel
theorem dX12_gives_183 : decode cX12_gives 183 = .ok (.iload_n 3, 1) := by decide +kernel
theorem dX12_gives_184 : decode cX12_gives 184 = .ok (.iconst 1, 1) := by decide +kernel
theorem dX12_gives_185 : decode cX12_gives 185 = .ok (.isub, 1) := by decide +kernel
theorem dX12_gives_186 : decode cX12_gives 186 = .ok (.iload 6, 2) := by decide +kernel
theorem dX12_gives_188 : decode cX12_gives 188 = .ok (.aload_n 0, 1) := by decide +kernel
theorem dX12_gives_189 : decode cX12_gives 189 = .ok (.getfield 104, 3) := by decide +kernel
theorem dX12_gives_192 : decode cX12_gives 192 = .ok (.iload_n 3, 1) := by decide +kernel
theorem dX12_gives_193 : decode cX12_gives 193 = .ok (.iconst 1, 1) := by decide +kernel
theorem dX12_gives_194 : decode cX12_gives 194 = .ok (.isub, 1) := by decide +kernel
theorem dX12_gives_195 : decode cX12_gives 195 = .ok (.iaload, 1) := by decide +kernel
theorem dX12_gives_196 : decode cX12_gives 196 = .ok (.aload_n 0, 1) := by decide +kernel
theorem dX12_gives_197 : decode cX12_gives 197 = .ok (.getfield 104, 3) := by decide +kernel
theorem dX12_gives_200 : decode cX12_gives 200 = .ok (.iload_n 3, 1) := by decide +kernel
theorem dX12_gives_201 : decode cX12_gives 201 = .ok (.iaload, 1) := by decide +kernel
theorem dX12_gives_202 : decode cX12_gives 202 = .ok (.invokestatic 321, 3) := by decide +kernel
theorem dX12_gives_205 : decode cX12_gives 205 = .ok (.iastore, 1) := by decide +kernel
theorem dX12_gives_206 : decode cX12_gives 206 = .ok (.iinc 5 1, 3) := by decide +kernel
theorem dX12_gives_209 : decode cX12_gives 209 = .ok (.goto (-197), 3) := by decide +kernel
theorem dX12_gives_212 : decode cX12_gives 212 = .ok (.iconst 0, 1) := by decide +kernel
theorem dX12_gives_213 : decode cX12_gives 213 = .ok (.ireturn, 1) := by decide +kernel
theorem dX12_says_0 : decode cX12_says 0 = .ok (.iload_n 1, 1) := by decide +kernel
theorem dX12_says_1 : decode cX12_says 1 = .ok (.iconst 0, 1) := by decide +kernel
theorem dX12_says_2 : decode cX12_says 2 = .ok (.aload_n 0, 1) := by decide +kernel
theorem dX12_says_3 : decode cX12_says 3 = .ok (.getfield 305, 3) := by decide +kernel
theorem dX12_says_6 : decode cX12_says 6 = .ok (.iconst 1, 1) := by decide +kernel
theorem dX12_says_7 : decode cX12_says 7 = .ok (.isub, 1) := by decide +kernel
theorem dX12_says_8 : decode cX12_says 8 = .ok (.invokestatic 196, 3) := by decide +kernel
theorem dX12_says_11 : decode cX12_says 11 = .ok (.ifCond .eq 20, 3) := by decide +kernel
theorem dX12_says_14 : decode cX12_says 14 = .ok (.aload_n 0, 1) := by decide +kernel
theorem dX12_says_15 : decode cX12_says 15 = .ok (.iload_n 2, 1) := by decide +kernel
theorem dX12_says_16 : decode cX12_says 16 = .ok (.invokevirtual 241, 3) := by decide +kernel
theorem dX12_says_19 : decode cX12_says 19 = .ok (.ifCond .eq 12, 3) := by decide +kernel
theorem dX12_says_22 : decode cX12_says 22 = .ok (.aload_n 0, 1) := by decide +kernel
theorem dX12_says_23 : decode cX12_says 23 = .ok (.iload_n 1, 1) := by decide +kernel
theorem dX12_says_24 : decode cX12_says 24 = .ok (.iload_n 2, 1) := by decide +kernel
theorem dX12_says_25 : decode cX12_says 25 = .ok (.invokevirtual 324, 3) := by decide +kernel
theorem dX12_says_28 : decode cX12_says 28 = .ok (.goto 5, 3) := by decide +kernel
theorem dX12_says_31 : decode cX12_says 31 = .ok (.ldc 244, 2) := by decide +kernel
theorem dX12_says_33 : decode cX12_says 33 = .ok (.ireturn, 1) := by decide +kernel
theorem dX12_may_0 : decode cX12_may 0 = .ok (.aload_n 0, 1) := by decide +kernel
theorem dX12_may_1 : decode cX12_may 1 = .ok (.iload_n 1, 1) := by decide +kernel
theorem dX12_may_2 : decode cX12_may 2 = .ok (.aload_n 0, 1) := by decide +kernel
theorem dX12_may_3 : decode cX12_may 3 = .ok (.invokevirtual 230, 3) := by decide +kernel
theorem dX12_may_6 : decode cX12_may 6 = .ok (.aload_n 0, 1) := by decide +kernel
theorem dX12_may_7 : decode cX12_may 7 = .ok (.invokevirtual 230, 3) := by decide +kernel
theorem dX12_may_10 : decode cX12_may 10 = .ok (.invokevirtual 311, 3) := by decide +kernel
theorem dX12_may_13 : decode cX12_may 13 = .ok (.istore_n 3, 1) := by decide +kernel
theorem dX12_may_14 : decode cX12_may 14 = .ok (.iload_n 3, 1) := by decide +kernel
theorem dX12_may_15 : decode cX12_may 15 = .ok (.ifCond .lt 12, 3) := by decide +kernel
theorem dX12_may_18 : decode cX12_may 18 = .ok (.aload_n 0, 1) := by decide +kernel
theorem dX12_may_19 : decode cX12_may 19 = .ok (.iload_n 3, 1) := by decide +kernel
theorem dX12_may_20 : decode cX12_may 20 = .ok (.iload_n 2, 1) := by decide +kernel
theorem dX12_may_21 : decode cX12_may 21 = .ok (.invokevirtual 324, 3) := by decide +kernel
theorem dX12_may_24 : decode cX12_may 24 = .ok (.ifCond .eq 7, 3) := by decide +kernel
theorem dX12_may_27 : decode cX12_may 27 = .ok (.iconst 1, 1) := by decide +kernel
theorem dX12_may_28 : decode cX12_may 28 = .ok (.goto 4, 3) := by decide +kernel
theorem dX12_may_31 : decode cX12_may 31 = .ok (.iconst 0, 1) := by decide +kernel
theorem dX12_may_32 : decode cX12_may 32 = .ok (.ireturn, 1) := by decide +kernel
theorem dX12_shelfOf_0 : decode cX12_shelfOf 0 = .ok (.iconst 0, 1) := by decide +kernel
theorem dX12_shelfOf_1 : decode cX12_shelfOf 1 = .ok (.istore 4, 2) := by decide +kernel
theorem dX12_shelfOf_3 : decode cX12_shelfOf 3 = .ok (.iconst 0, 1) := by decide +kernel
theorem dX12_shelfOf_4 : decode cX12_shelfOf 4 = .ok (.istore 5, 2) := by decide +kernel
theorem dX12_shelfOf_6 : decode cX12_shelfOf 6 = .ok (.iload 5, 2) := by decide +kernel
theorem dX12_shelfOf_8 : decode cX12_shelfOf 8 = .ok (.aload_n 0, 1) := by decide +kernel
theorem dX12_shelfOf_9 : decode cX12_shelfOf 9 = .ok (.getfield 227, 3) := by decide +kernel
theorem dX12_shelfOf_12 : decode cX12_shelfOf 12 = .ok (.if_icmp .ge 58, 3) := by decide +kernel
theorem dX12_shelfOf_15 : decode cX12_shelfOf 15 = .ok (.aload_n 0, 1) := by decide +kernel
theorem dX12_shelfOf_16 : decode cX12_shelfOf 16 = .ok (.getfield 43, 3) := by decide +kernel
theorem dX12_shelfOf_19 : decode cX12_shelfOf 19 = .ok (.iload 5, 2) := by decide +kernel
theorem dX12_shelfOf_21 : decode cX12_shelfOf 21 = .ok (.iaload, 1) := by decide +kernel
theorem dX12_shelfOf_22 : decode cX12_shelfOf 22 = .ok (.iload_n 1, 1) := by decide +kernel
theorem dX12_shelfOf_23 : decode cX12_shelfOf 23 = .ok (.if_icmp .ne 41, 3) := by decide +kernel
theorem dX12_shelfOf_26 : decode cX12_shelfOf 26 = .ok (.aload_n 0, 1) := by decide +kernel
theorem dX12_shelfOf_27 : decode cX12_shelfOf 27 = .ok (.getfield 46, 3) := by decide +kernel
theorem dX12_shelfOf_30 : decode cX12_shelfOf 30 = .ok (.iload 5, 2) := by decide +kernel
theorem dX12_shelfOf_32 : decode cX12_shelfOf 32 = .ok (.iaload, 1) := by decide +kernel
theorem dX12_shelfOf_33 : decode cX12_shelfOf 33 = .ok (.iload_n 2, 1) := by decide +kernel
theorem dX12_shelfOf_34 : decode cX12_shelfOf 34 = .ok (.if_icmp .ne 30, 3) := by decide +kernel
theorem dX12_shelfOf_37 : decode cX12_shelfOf 37 = .ok (.iload_n 3, 1) := by decide +kernel
theorem dX12_shelfOf_38 : decode cX12_shelfOf 38 = .ok (.ifCond .eq 15, 3) := by decide +kernel
theorem dX12_shelfOf_41 : decode cX12_shelfOf 41 = .ok (.aload_n 0, 1) := by decide +kernel
theorem dX12_shelfOf_42 : decode cX12_shelfOf 42 = .ok (.iload_n 3, 1) := by decide +kernel
theorem dX12_shelfOf_43 : decode cX12_shelfOf 43 = .ok (.iconst 1, 1) := by decide +kernel
theorem dX12_shelfOf_44 : decode cX12_shelfOf 44 = .ok (.isub, 1) := by decide +kernel
theorem dX12_shelfOf_45 : decode cX12_shelfOf 45 = .ok (.iload 5, 2) := by decide +kernel
theorem dX12_shelfOf_47 : decode cX12_shelfOf 47 = .ok (.invokevirtual 327, 3) := by decide +kernel
theorem dX12_shelfOf_50 : decode cX12_shelfOf 50 = .ok (.ifCond .eq 14, 3) := by decide +kernel
theorem dX12_shelfOf_53 : decode cX12_shelfOf 53 = .ok (.iload 4, 2) := by decide +kernel
theorem dX12_shelfOf_55 : decode cX12_shelfOf 55 = .ok (.aload_n 0, 1) := by decide +kernel
theorem dX12_shelfOf_56 : decode cX12_shelfOf 56 = .ok (.iload 5, 2) := by decide +kernel
theorem dX12_shelfOf_58 : decode cX12_shelfOf 58 = .ok (.invokevirtual 245, 3) := by decide +kernel
theorem dX12_shelfOf_61 : decode cX12_shelfOf 61 = .ok (.iadd, 1) := by decide +kernel
theorem dX12_shelfOf_62 : decode cX12_shelfOf 62 = .ok (.istore 4, 2) := by decide +kernel
theorem dX12_shelfOf_64 : decode cX12_shelfOf 64 = .ok (.iinc 5 1, 3) := by decide +kernel
theorem dX12_shelfOf_67 : decode cX12_shelfOf 67 = .ok (.goto (-61), 3) := by decide +kernel
theorem dX12_shelfOf_70 : decode cX12_shelfOf 70 = .ok (.iload 4, 2) := by decide +kernel
theorem dX12_shelfOf_72 : decode cX12_shelfOf 72 = .ok (.ireturn, 1) := by decide +kernel
theorem dX12_shelf_0 : decode cX12_shelf 0 = .ok (.aload_n 0, 1) := by decide +kernel
theorem dX12_shelf_1 : decode cX12_shelf 1 = .ok (.iload_n 1, 1) := by decide +kernel
theorem dX12_shelf_2 : decode cX12_shelf 2 = .ok (.iload_n 2, 1) := by decide +kernel
theorem dX12_shelf_3 : decode cX12_shelf 3 = .ok (.invokevirtual 223, 3) := by decide +kernel
theorem dX12_shelf_6 : decode cX12_shelf 6 = .ok (.ifCond .eq 22, 3) := by decide +kernel
theorem dX12_shelf_9 : decode cX12_shelf 9 = .ok (.iload_n 3, 1) := by decide +kernel
theorem dX12_shelf_10 : decode cX12_shelf 10 = .ok (.iconst 0, 1) := by decide +kernel
theorem dX12_shelf_11 : decode cX12_shelf 11 = .ok (.iconst 2, 1) := by decide +kernel
theorem dX12_shelf_12 : decode cX12_shelf 12 = .ok (.invokestatic 196, 3) := by decide +kernel
theorem dX12_shelf_15 : decode cX12_shelf 15 = .ok (.ifCond .eq 13, 3) := by decide +kernel
theorem dX12_shelf_18 : decode cX12_shelf 18 = .ok (.aload_n 0, 1) := by decide +kernel
theorem dX12_shelf_19 : decode cX12_shelf 19 = .ok (.iload_n 1, 1) := by decide +kernel
theorem dX12_shelf_20 : decode cX12_shelf 20 = .ok (.iload_n 2, 1) := by decide +kernel
theorem dX12_shelf_21 : decode cX12_shelf 21 = .ok (.iload_n 3, 1) := by decide +kernel
theorem dX12_shelf_22 : decode cX12_shelf 22 = .ok (.invokevirtual 330, 3) := by decide +kernel
theorem dX12_shelf_25 : decode cX12_shelf 25 = .ok (.goto 4, 3) := by decide +kernel
theorem dX12_shelf_28 : decode cX12_shelf 28 = .ok (.iconst (-1), 1) := by decide +kernel
theorem dX12_shelf_29 : decode cX12_shelf 29 = .ok (.ireturn, 1) := by decide +kernel
theorem dX12_eldest_0 : decode cX12_eldest 0 = .ok (.iconst (-1), 1) := by decide +kernel
theorem dX12_eldest_1 : decode cX12_eldest 1 = .ok (.istore 4, 2) := by decide +kernel
theorem dX12_eldest_3 : decode cX12_eldest 3 = .ok (.iconst 0, 1) := by decide +kernel
theorem dX12_eldest_4 : decode cX12_eldest 4 = .ok (.istore 5, 2) := by decide +kernel
theorem dX12_eldest_6 : decode cX12_eldest 6 = .ok (.iload 5, 2) := by decide +kernel
theorem dX12_eldest_8 : decode cX12_eldest 8 = .ok (.aload_n 0, 1) := by decide +kernel
theorem dX12_eldest_9 : decode cX12_eldest 9 = .ok (.getfield 227, 3) := by decide +kernel
theorem dX12_eldest_12 : decode cX12_eldest 12 = .ok (.if_icmp .ge 76, 3) := by decide +kernel
theorem dX12_eldest_15 : decode cX12_eldest 15 = .ok (.aload_n 0, 1) := by decide +kernel
theorem dX12_eldest_16 : decode cX12_eldest 16 = .ok (.getfield 43, 3) := by decide +kernel
theorem dX12_eldest_19 : decode cX12_eldest 19 = .ok (.iload 5, 2) := by decide +kernel
theorem dX12_eldest_21 : decode cX12_eldest 21 = .ok (.iaload, 1) := by decide +kernel
theorem dX12_eldest_22 : decode cX12_eldest 22 = .ok (.iload_n 1, 1) := by decide +kernel
theorem dX12_eldest_23 : decode cX12_eldest 23 = .ok (.if_icmp .ne 59, 3) := by decide +kernel
theorem dX12_eldest_26 : decode cX12_eldest 26 = .ok (.aload_n 0, 1) := by decide +kernel
theorem dX12_eldest_27 : decode cX12_eldest 27 = .ok (.getfield 46, 3) := by decide +kernel
theorem dX12_eldest_30 : decode cX12_eldest 30 = .ok (.iload 5, 2) := by decide +kernel
theorem dX12_eldest_32 : decode cX12_eldest 32 = .ok (.iaload, 1) := by decide +kernel
theorem dX12_eldest_33 : decode cX12_eldest 33 = .ok (.iload_n 2, 1) := by decide +kernel
theorem dX12_eldest_34 : decode cX12_eldest 34 = .ok (.if_icmp .ne 48, 3) := by decide +kernel
theorem dX12_eldest_37 : decode cX12_eldest 37 = .ok (.aload_n 0, 1) := by decide +kernel
theorem dX12_eldest_38 : decode cX12_eldest 38 = .ok (.iload 5, 2) := by decide +kernel
theorem dX12_eldest_40 : decode cX12_eldest 40 = .ok (.invokevirtual 245, 3) := by decide +kernel
theorem dX12_eldest_43 : decode cX12_eldest 43 = .ok (.ifCond .le 39, 3) := by decide +kernel
theorem dX12_eldest_46 : decode cX12_eldest 46 = .ok (.aload_n 0, 1) := by decide +kernel
theorem dX12_eldest_47 : decode cX12_eldest 47 = .ok (.iload_n 3, 1) := by decide +kernel
theorem dX12_eldest_48 : decode cX12_eldest 48 = .ok (.iload 5, 2) := by decide +kernel
theorem dX12_eldest_50 : decode cX12_eldest 50 = .ok (.invokevirtual 327, 3) := by decide +kernel
theorem dX12_eldest_53 : decode cX12_eldest 53 = .ok (.ifCond .eq 29, 3) := by decide +kernel
theorem dX12_eldest_56 : decode cX12_eldest 56 = .ok (.iload 4, 2) := by decide +kernel
theorem dX12_eldest_58 : decode cX12_eldest 58 = .ok (.ifCond .lt 20, 3) := by decide +kernel
theorem dX12_eldest_61 : decode cX12_eldest 61 = .ok (.aload_n 0, 1) := by decide +kernel
theorem dX12_eldest_62 : decode cX12_eldest 62 = .ok (.getfield 52, 3) := by decide +kernel
theorem dX12_eldest_65 : decode cX12_eldest 65 = .ok (.iload 5, 2) := by decide +kernel
theorem dX12_eldest_67 : decode cX12_eldest 67 = .ok (.iaload, 1) := by decide +kernel
theorem dX12_eldest_68 : decode cX12_eldest 68 = .ok (.aload_n 0, 1) := by decide +kernel
theorem dX12_eldest_69 : decode cX12_eldest 69 = .ok (.getfield 52, 3) := by decide +kernel
theorem dX12_eldest_72 : decode cX12_eldest 72 = .ok (.iload 4, 2) := by decide +kernel
theorem dX12_eldest_74 : decode cX12_eldest 74 = .ok (.iaload, 1) := by decide +kernel
theorem dX12_eldest_75 : decode cX12_eldest 75 = .ok (.if_icmp .ge 7, 3) := by decide +kernel
theorem dX12_eldest_78 : decode cX12_eldest 78 = .ok (.iload 5, 2) := by decide +kernel
theorem dX12_eldest_80 : decode cX12_eldest 80 = .ok (.istore 4, 2) := by decide +kernel
theorem dX12_eldest_82 : decode cX12_eldest 82 = .ok (.iinc 5 1, 3) := by decide +kernel
theorem dX12_eldest_85 : decode cX12_eldest 85 = .ok (.goto (-79), 3) := by decide +kernel
theorem dX12_eldest_88 : decode cX12_eldest 88 = .ok (.iload 4, 2) := by decide +kernel
theorem dX12_eldest_90 : decode cX12_eldest 90 = .ok (.ireturn, 1) := by decide +kernel
theorem dX12_toss_0 : decode cX12_toss 0 = .ok (.aload_n 0, 1) := by decide +kernel
theorem dX12_toss_1 : decode cX12_toss 1 = .ok (.getfield 70, 3) := by decide +kernel
theorem dX12_toss_4 : decode cX12_toss 4 = .ok (.iload_n 1, 1) := by decide +kernel
theorem dX12_toss_5 : decode cX12_toss 5 = .ok (.dup2, 1) := by decide +kernel
theorem dX12_toss_6 : decode cX12_toss 6 = .ok (.iaload, 1) := by decide +kernel
theorem dX12_toss_7 : decode cX12_toss 7 = .ok (.iload_n 2, 1) := by decide +kernel
theorem dX12_toss_8 : decode cX12_toss 8 = .ok (.iadd, 1) := by decide +kernel
theorem dX12_toss_9 : decode cX12_toss 9 = .ok (.iastore, 1) := by decide +kernel
theorem dX12_toss_10 : decode cX12_toss 10 = .ok (.aload_n 0, 1) := by decide +kernel
theorem dX12_toss_11 : decode cX12_toss 11 = .ok (.getfield 79, 3) := by decide +kernel
theorem dX12_toss_14 : decode cX12_toss 14 = .ok (.aload_n 0, 1) := by decide +kernel
theorem dX12_toss_15 : decode cX12_toss 15 = .ok (.invokevirtual 230, 3) := by decide +kernel
theorem dX12_toss_18 : decode cX12_toss 18 = .ok (.dup2, 1) := by decide +kernel
theorem dX12_toss_19 : decode cX12_toss 19 = .ok (.iaload, 1) := by decide +kernel
theorem dX12_toss_20 : decode cX12_toss 20 = .ok (.iload_n 2, 1) := by decide +kernel
theorem dX12_toss_21 : decode cX12_toss 21 = .ok (.aload_n 0, 1) := by decide +kernel
theorem dX12_toss_22 : decode cX12_toss 22 = .ok (.getfield 25, 3) := by decide +kernel
theorem dX12_toss_25 : decode cX12_toss 25 = .ok (.aload_n 0, 1) := by decide +kernel
theorem dX12_toss_26 : decode cX12_toss 26 = .ok (.getfield 46, 3) := by decide +kernel
theorem dX12_toss_29 : decode cX12_toss 29 = .ok (.iload_n 1, 1) := by decide +kernel
theorem dX12_toss_30 : decode cX12_toss 30 = .ok (.iaload, 1) := by decide +kernel
theorem dX12_toss_31 : decode cX12_toss 31 = .ok (.iaload, 1) := by decide +kernel
theorem dX12_toss_32 : decode cX12_toss 32 = .ok (.imul, 1) := by decide +kernel
theorem dX12_toss_33 : decode cX12_toss 33 = .ok (.iadd, 1) := by decide +kernel
theorem dX12_toss_34 : decode cX12_toss 34 = .ok (.iastore, 1) := by decide +kernel
theorem dX12_toss_35 : decode cX12_toss 35 = .ok (.return_, 1) := by decide +kernel
theorem dX12_hours_0 : decode cX12_hours 0 = .ok (.iload_n 1, 1) := by decide +kernel
theorem dX12_hours_1 : decode cX12_hours 1 = .ok (.iconst 1, 1) := by decide +kernel
theorem dX12_hours_2 : decode cX12_hours 2 = .ok (.sipush 240, 3) := by decide +kernel
theorem dX12_hours_5 : decode cX12_hours 5 = .ok (.invokestatic 196, 3) := by decide +kernel
theorem dX12_hours_8 : decode cX12_hours 8 = .ok (.ifCond .eq 15, 3) := by decide +kernel
theorem dX12_hours_11 : decode cX12_hours 11 = .ok (.aload_n 0, 1) := by decide +kernel
theorem dX12_hours_12 : decode cX12_hours 12 = .ok (.getfield 200, 3) := by decide +kernel
theorem dX12_hours_15 : decode cX12_hours 15 = .ok (.iload_n 1, 1) := by decide +kernel
theorem dX12_hours_16 : decode cX12_hours 16 = .ok (.iadd, 1) := by decide +kernel
theorem dX12_hours_17 : decode cX12_hours 17 = .ok (.ldc_w 333, 3) := by decide +kernel
theorem dX12_hours_20 : decode cX12_hours 20 = .ok (.if_icmp .le 5, 3) := by decide +kernel
theorem dX12_hours_23 : decode cX12_hours 23 = .ok (.iconst (-1), 1) := by decide +kernel
theorem dX12_hours_24 : decode cX12_hours 24 = .ok (.ireturn, 1) := by decide +kernel
theorem dX12_hours_25 : decode cX12_hours 25 = .ok (.iconst 0, 1) := by decide +kernel
theorem dX12_hours_26 : decode cX12_hours 26 = .ok (.istore_n 2, 1) := by decide +kernel
theorem dX12_hours_27 : decode cX12_hours 27 = .ok (.iload_n 2, 1) := by decide +kernel
theorem dX12_hours_28 : decode cX12_hours 28 = .ok (.iload_n 1, 1) := by decide +kernel
theorem dX12_hours_29 : decode cX12_hours 29 = .ok (.if_icmp .ge 103, 3) := by decide +kernel
theorem dX12_hours_32 : decode cX12_hours 32 = .ok (.aload_n 0, 1) := by decide +kernel
theorem dX12_hours_33 : decode cX12_hours 33 = .ok (.dup, 1) := by decide +kernel
theorem dX12_hours_34 : decode cX12_hours 34 = .ok (.getfield 200, 3) := by decide +kernel
theorem dX12_hours_37 : decode cX12_hours 37 = .ok (.iconst 1, 1) := by decide +kernel
theorem dX12_hours_38 : decode cX12_hours 38 = .ok (.iadd, 1) := by decide +kernel
theorem dX12_hours_39 : decode cX12_hours 39 = .ok (.putfield 200, 3) := by decide +kernel
theorem dX12_hours_42 : decode cX12_hours 42 = .ok (.aload_n 0, 1) := by decide +kernel
theorem dX12_hours_43 : decode cX12_hours 43 = .ok (.getfield 200, 3) := by decide +kernel
theorem dX12_hours_46 : decode cX12_hours 46 = .ok (.bipush 24, 2) := by decide +kernel
theorem dX12_hours_48 : decode cX12_hours 48 = .ok (.irem, 1) := by decide +kernel
theorem dX12_hours_49 : decode cX12_hours 49 = .ok (.ifCond .eq 6, 3) := by decide +kernel
theorem dX12_hours_52 : decode cX12_hours 52 = .ok (.goto 74, 3) := by decide +kernel
theorem dX12_hours_55 : decode cX12_hours 55 = .ok (.iconst 0, 1) := by decide +kernel
theorem dX12_hours_56 : decode cX12_hours 56 = .ok (.istore_n 3, 1) := by decide +kernel
theorem dX12_hours_57 : decode cX12_hours 57 = .ok (.iload_n 3, 1) := by decide +kernel
theorem dX12_hours_58 : decode cX12_hours 58 = .ok (.bipush 120, 2) := by decide +kernel
theorem dX12_hours_60 : decode cX12_hours 60 = .ok (.if_icmp .ge 23, 3) := by decide +kernel
theorem dX12_hours_63 : decode cX12_hours 63 = .ok (.aload_n 0, 1) := by decide +kernel
theorem dX12_hours_64 : decode cX12_hours 64 = .ok (.getfield 37, 3) := by decide +kernel
theorem dX12_hours_67 : decode cX12_hours 67 = .ok (.iload_n 3, 1) := by decide +kernel
theorem dX12_hours_68 : decode cX12_hours 68 = .ok (.iconst 0, 1) := by decide +kernel
theorem dX12_hours_69 : decode cX12_hours 69 = .ok (.iastore, 1) := by decide +kernel
theorem dX12_hours_70 : decode cX12_hours 70 = .ok (.aload_n 0, 1) := by decide +kernel
theorem dX12_hours_71 : decode cX12_hours 71 = .ok (.getfield 40, 3) := by decide +kernel
theorem dX12_hours_74 : decode cX12_hours 74 = .ok (.iload_n 3, 1) := by decide +kernel
theorem dX12_hours_75 : decode cX12_hours 75 = .ok (.iconst 0, 1) := by decide +kernel
theorem dX12_hours_76 : decode cX12_hours 76 = .ok (.iastore, 1) := by decide +kernel
theorem dX12_hours_77 : decode cX12_hours 77 = .ok (.iinc 3 1, 3) := by decide +kernel
theorem dX12_hours_80 : decode cX12_hours 80 = .ok (.goto (-23), 3) := by decide +kernel
theorem dX12_hours_83 : decode cX12_hours 83 = .ok (.iconst 0, 1) := by decide +kernel
theorem dX12_hours_84 : decode cX12_hours 84 = .ok (.istore_n 3, 1) := by decide +kernel
theorem dX12_hours_85 : decode cX12_hours 85 = .ok (.iload_n 3, 1) := by decide +kernel
theorem dX12_hours_86 : decode cX12_hours 86 = .ok (.aload_n 0, 1) := by decide +kernel
theorem dX12_hours_87 : decode cX12_hours 87 = .ok (.getfield 227, 3) := by decide +kernel
theorem dX12_hours_90 : decode cX12_hours 90 = .ok (.if_icmp .ge 36, 3) := by decide +kernel
theorem dX12_hours_93 : decode cX12_hours 93 = .ok (.aload_n 0, 1) := by decide +kernel
theorem dX12_hours_94 : decode cX12_hours 94 = .ok (.iload_n 3, 1) := by decide +kernel
theorem dX12_hours_95 : decode cX12_hours 95 = .ok (.invokevirtual 245, 3) := by decide +kernel
theorem dX12_hours_98 : decode cX12_hours 98 = .ok (.ifCond .le 22, 3) := by decide +kernel
theorem dX12_hours_101 : decode cX12_hours 101 = .ok (.aload_n 0, 1) := by decide +kernel
theorem dX12_hours_102 : decode cX12_hours 102 = .ok (.iconst 0, 1) := by decide +kernel
theorem dX12_hours_103 : decode cX12_hours 103 = .ok (.iload_n 3, 1) := by decide +kernel
theorem dX12_hours_104 : decode cX12_hours 104 = .ok (.invokevirtual 327, 3) := by decide +kernel
theorem dX12_hours_107 : decode cX12_hours 107 = .ok (.ifCond .ne 13, 3) := by decide +kernel
theorem dX12_hours_110 : decode cX12_hours 110 = .ok (.aload_n 0, 1) := by decide +kernel
theorem dX12_hours_111 : decode cX12_hours 111 = .ok (.iload_n 3, 1) := by decide +kernel
theorem dX12_hours_112 : decode cX12_hours 112 = .ok (.aload_n 0, 1) := by decide +kernel
theorem dX12_hours_113 : decode cX12_hours 113 = .ok (.iload_n 3, 1) := by decide +kernel
theorem dX12_hours_114 : decode cX12_hours 114 = .ok (.invokevirtual 245, 3) := by decide +kernel
theorem dX12_hours_117 : decode cX12_hours 117 = .ok (.invokevirtual 334, 3) := by decide +kernel
theorem dX12_hours_120 : decode cX12_hours 120 = .ok (.iinc 3 1, 3) := by decide +kernel
theorem dX12_hours_123 : decode cX12_hours 123 = .ok (.goto (-38), 3) := by decide +kernel
theorem dX12_hours_126 : decode cX12_hours 126 = .ok (.iinc 2 1, 3) := by decide +kernel
theorem dX12_hours_129 : decode cX12_hours 129 = .ok (.goto (-102), 3) := by decide +kernel
theorem dX12_hours_132 : decode cX12_hours 132 = .ok (.aload_n 0, 1) := by decide +kernel
theorem dX12_hours_133 : decode cX12_hours 133 = .ok (.getfield 200, 3) := by decide +kernel
theorem dX12_hours_136 : decode cX12_hours 136 = .ok (.ireturn, 1) := by decide +kernel
theorem dX12_isOpen_0 : decode cX12_isOpen 0 = .ok (.aload_n 0, 1) := by decide +kernel
theorem dX12_isOpen_1 : decode cX12_isOpen 1 = .ok (.invokevirtual 315, 3) := by decide +kernel
theorem dX12_isOpen_4 : decode cX12_isOpen 4 = .ok (.bipush 6, 2) := by decide +kernel
theorem dX12_isOpen_6 : decode cX12_isOpen 6 = .ok (.bipush 19, 2) := by decide +kernel
theorem dX12_isOpen_8 : decode cX12_isOpen 8 = .ok (.invokestatic 196, 3) := by decide +kernel
theorem dX12_isOpen_11 : decode cX12_isOpen 11 = .ok (.ireturn, 1) := by decide +kernel
theorem dX12_hasRow_0 : decode cX12_hasRow 0 = .ok (.iconst 0, 1) := by decide +kernel
theorem dX12_hasRow_1 : decode cX12_hasRow 1 = .ok (.istore_n 3, 1) := by decide +kernel
theorem dX12_hasRow_2 : decode cX12_hasRow 2 = .ok (.iload_n 3, 1) := by decide +kernel
theorem dX12_hasRow_3 : decode cX12_hasRow 3 = .ok (.aload_n 0, 1) := by decide +kernel
theorem dX12_hasRow_4 : decode cX12_hasRow 4 = .ok (.getfield 337, 3) := by decide +kernel
theorem dX12_hasRow_7 : decode cX12_hasRow 7 = .ok (.if_icmp .ge 44, 3) := by decide +kernel
theorem dX12_hasRow_10 : decode cX12_hasRow 10 = .ok (.aload_n 0, 1) := by decide +kernel
theorem dX12_hasRow_11 : decode cX12_hasRow 11 = .ok (.getfield 107, 3) := by decide +kernel
theorem dX12_hasRow_14 : decode cX12_hasRow 14 = .ok (.iload_n 3, 1) := by decide +kernel
theorem dX12_hasRow_15 : decode cX12_hasRow 15 = .ok (.iaload, 1) := by decide +kernel
theorem dX12_hasRow_16 : decode cX12_hasRow 16 = .ok (.iload_n 1, 1) := by decide +kernel
theorem dX12_hasRow_17 : decode cX12_hasRow 17 = .ok (.if_icmp .ne 28, 3) := by decide +kernel
theorem dX12_hasRow_20 : decode cX12_hasRow 20 = .ok (.aload_n 0, 1) := by decide +kernel
theorem dX12_hasRow_21 : decode cX12_hasRow 21 = .ok (.getfield 110, 3) := by decide +kernel
theorem dX12_hasRow_24 : decode cX12_hasRow 24 = .ok (.iload_n 3, 1) := by decide +kernel
theorem dX12_hasRow_25 : decode cX12_hasRow 25 = .ok (.iaload, 1) := by decide +kernel
theorem dX12_hasRow_26 : decode cX12_hasRow 26 = .ok (.iload_n 2, 1) := by decide +kernel
theorem dX12_hasRow_27 : decode cX12_hasRow 27 = .ok (.if_icmp .ne 18, 3) := by decide +kernel
theorem dX12_hasRow_30 : decode cX12_hasRow 30 = .ok (.aload_n 0, 1) := by decide +kernel
theorem dX12_hasRow_31 : decode cX12_hasRow 31 = .ok (.getfield 113, 3) := by decide +kernel
theorem dX12_hasRow_34 : decode cX12_hasRow 34 = .ok (.iload_n 3, 1) := by decide +kernel
theorem dX12_hasRow_35 : decode cX12_hasRow 35 = .ok (.iaload, 1) := by decide +kernel
theorem dX12_hasRow_36 : decode cX12_hasRow 36 = .ok (.aload_n 0, 1) := by decide +kernel
theorem dX12_hasRow_37 : decode cX12_hasRow 37 = .ok (.getfield 200, 3) := by decide +kernel
theorem dX12_hasRow_40 : decode cX12_hasRow 40 = .ok (.if_icmp .ne 5, 3) := by decide +kernel
theorem dX12_hasRow_43 : decode cX12_hasRow 43 = .ok (.iconst 1, 1) := by decide +kernel
theorem dX12_hasRow_44 : decode cX12_hasRow 44 = .ok (.ireturn, 1) := by decide +kernel
theorem dX12_hasRow_45 : decode cX12_hasRow 45 = .ok (.iinc 3 1, 3) := by decide +kernel
theorem dX12_hasRow_48 : decode cX12_hasRow 48 = .ok (.goto (-46), 3) := by decide +kernel
theorem dX12_hasRow_51 : decode cX12_hasRow 51 = .ok (.iconst 0, 1) := by decide +kernel
theorem dX12_hasRow_52 : decode cX12_hasRow 52 = .ok (.ireturn, 1) := by decide +kernel
theorem dX12_buy_0 : decode cX12_buy 0 = .ok (.aload_n 0, 1) := by decide +kernel
theorem dX12_buy_1 : decode cX12_buy 1 = .ok (.iload_n 1, 1) := by decide +kernel
theorem dX12_buy_2 : decode cX12_buy 2 = .ok (.iload_n 2, 1) := by decide +kernel
theorem dX12_buy_3 : decode cX12_buy 3 = .ok (.invokevirtual 223, 3) := by decide +kernel
theorem dX12_buy_6 : decode cX12_buy 6 = .ok (.ifCond .eq 14, 3) := by decide +kernel
theorem dX12_buy_9 : decode cX12_buy 9 = .ok (.iload_n 3, 1) := by decide +kernel
theorem dX12_buy_10 : decode cX12_buy 10 = .ok (.iconst 0, 1) := by decide +kernel
theorem dX12_buy_11 : decode cX12_buy 11 = .ok (.sipush 999, 3) := by decide +kernel
theorem dX12_buy_14 : decode cX12_buy 14 = .ok (.invokestatic 196, 3) := by decide +kernel
theorem dX12_buy_17 : decode cX12_buy 17 = .ok (.ifCond .ne 5, 3) := by decide +kernel
theorem dX12_buy_20 : decode cX12_buy 20 = .ok (.iconst (-1), 1) := by decide +kernel
theorem dX12_buy_21 : decode cX12_buy 21 = .ok (.ireturn, 1) := by decide +kernel
theorem dX12_buy_22 : decode cX12_buy 22 = .ok (.aload_n 0, 1) := by decide +kernel
theorem dX12_buy_23 : decode cX12_buy 23 = .ok (.invokevirtual 340, 3) := by decide +kernel
theorem dX12_buy_26 : decode cX12_buy 26 = .ok (.ifCond .eq 12, 3) := by decide +kernel
theorem dX12_buy_29 : decode cX12_buy 29 = .ok (.aload_n 0, 1) := by decide +kernel
theorem dX12_buy_30 : decode cX12_buy 30 = .ok (.iload_n 1, 1) := by decide +kernel
theorem dX12_buy_31 : decode cX12_buy 31 = .ok (.iload_n 2, 1) := by decide +kernel
theorem dX12_buy_32 : decode cX12_buy 32 = .ok (.invokevirtual 344, 3) := by decide +kernel
theorem dX12_buy_35 : decode cX12_buy 35 = .ok (.ifCond .eq 6, 3) := by decide +kernel
theorem dX12_buy_38 : decode cX12_buy 38 = .ok (.bipush (-2), 2) := by decide +kernel
theorem dX12_buy_40 : decode cX12_buy 40 = .ok (.ireturn, 1) := by decide +kernel
theorem dX12_buy_41 : decode cX12_buy 41 = .ok (.aload_n 0, 1) := by decide +kernel
theorem dX12_buy_42 : decode cX12_buy 42 = .ok (.getfield 337, 3) := by decide +kernel
theorem dX12_buy_45 : decode cX12_buy 45 = .ok (.sipush 600, 3) := by decide +kernel
theorem dX12_buy_48 : decode cX12_buy 48 = .ok (.if_icmp .ne 6, 3) := by decide +kernel
theorem dX12_buy_51 : decode cX12_buy 51 = .ok (.bipush (-3), 2) := by decide +kernel
theorem dX12_buy_53 : decode cX12_buy 53 = .ok (.ireturn, 1) := by decide +kernel
theorem dX12_buy_54 : decode cX12_buy 54 = .ok (.iload_n 3, 1) := by decide +kernel
theorem dX12_buy_55 : decode cX12_buy 55 = .ok (.istore 4, 2) := by decide +kernel
theorem dX12_buy_57 : decode cX12_buy 57 = .ok (.aload_n 0, 1) := by decide +kernel
theorem dX12_buy_58 : decode cX12_buy 58 = .ok (.iload_n 1, 1) := by decide +kernel
theorem dX12_buy_59 : decode cX12_buy 59 = .ok (.iload_n 2, 1) := by decide +kernel
theorem dX12_buy_60 : decode cX12_buy 60 = .ok (.iconst 0, 1) := by decide +kernel
theorem dX12_buy_61 : decode cX12_buy 61 = .ok (.invokevirtual 347, 3) := by decide +kernel
theorem dX12_buy_64 : decode cX12_buy 64 = .ok (.istore 5, 2) := by decide +kernel
theorem dX12_buy_66 : decode cX12_buy 66 = .ok (.iload 4, 2) := by decide +kernel
theorem dX12_buy_68 : decode cX12_buy 68 = .ok (.ifCond .le 63, 3) := by decide +kernel
theorem dX12_buy_71 : decode cX12_buy 71 = .ok (.iload 5, 2) := by decide +kernel
theorem dX12_buy_73 : decode cX12_buy 73 = .ok (.ifCond .lt 58, 3) := by decide +kernel
theorem dX12_buy_76 : decode cX12_buy 76 = .ok (.aload_n 0, 1) := by decide +kernel
theorem dX12_buy_77 : decode cX12_buy 77 = .ok (.iload 5, 2) := by decide +kernel
theorem dX12_buy_79 : decode cX12_buy 79 = .ok (.invokevirtual 245, 3) := by decide +kernel
theorem dX12_buy_82 : decode cX12_buy 82 = .ok (.iload 4, 2) := by decide +kernel
theorem dX12_buy_84 : decode cX12_buy 84 = .ok (.if_icmp .ge 12, 3) := by decide +kernel
theorem dX12_buy_87 : decode cX12_buy 87 = .ok (.aload_n 0, 1) := by decide +kernel
theorem dX12_buy_88 : decode cX12_buy 88 = .ok (.iload 5, 2) := by decide +kernel
theorem dX12_buy_90 : decode cX12_buy 90 = .ok (.invokevirtual 245, 3) := by decide +kernel
theorem dX12_buy_93 : decode cX12_buy 93 = .ok (.goto 5, 3) := by decide +kernel
theorem dX12_buy_96 : decode cX12_buy 96 = .ok (.iload 4, 2) := by decide +kernel
theorem dX12_buy_98 : decode cX12_buy 98 = .ok (.istore 6, 2) := by decide +kernel
theorem dX12_buy_100 : decode cX12_buy 100 = .ok (.aload_n 0, 1) := by decide +kernel
theorem dX12_buy_101 : decode cX12_buy 101 = .ok (.getfield 61, 3) := by decide +kernel
theorem dX12_buy_104 : decode cX12_buy 104 = .ok (.iload 5, 2) := by decide +kernel
theorem dX12_buy_106 : decode cX12_buy 106 = .ok (.dup2, 1) := by decide +kernel
theorem dX12_buy_107 : decode cX12_buy 107 = .ok (.iaload, 1) := by decide +kernel
theorem dX12_buy_108 : decode cX12_buy 108 = .ok (.iload 6, 2) := by decide +kernel
theorem dX12_buy_110 : decode cX12_buy 110 = .ok (.iadd, 1) := by decide +kernel
theorem dX12_buy_111 : decode cX12_buy 111 = .ok (.iastore, 1) := by decide +kernel
theorem dX12_buy_112 : decode cX12_buy 112 = .ok (.iload 4, 2) := by decide +kernel
theorem dX12_buy_114 : decode cX12_buy 114 = .ok (.iload 6, 2) := by decide +kernel
theorem dX12_buy_116 : decode cX12_buy 116 = .ok (.isub, 1) := by decide +kernel
theorem dX12_buy_117 : decode cX12_buy 117 = .ok (.istore 4, 2) := by decide +kernel
theorem dX12_buy_119 : decode cX12_buy 119 = .ok (.aload_n 0, 1) := by decide +kernel
theorem dX12_buy_120 : decode cX12_buy 120 = .ok (.iload_n 1, 1) := by decide +kernel
theorem dX12_buy_121 : decode cX12_buy 121 = .ok (.iload_n 2, 1) := by decide +kernel
theorem dX12_buy_122 : decode cX12_buy 122 = .ok (.iconst 0, 1) := by decide +kernel
theorem dX12_buy_123 : decode cX12_buy 123 = .ok (.invokevirtual 347, 3) := by decide +kernel
theorem dX12_buy_126 : decode cX12_buy 126 = .ok (.istore 5, 2) := by decide +kernel
theorem dX12_buy_128 : decode cX12_buy 128 = .ok (.goto (-62), 3) := by decide +kernel
theorem dX12_buy_131 : decode cX12_buy 131 = .ok (.aload_n 0, 1) := by decide +kernel
theorem dX12_buy_132 : decode cX12_buy 132 = .ok (.getfield 107, 3) := by decide +kernel
theorem dX12_buy_135 : decode cX12_buy 135 = .ok (.aload_n 0, 1) := by decide +kernel
theorem dX12_buy_136 : decode cX12_buy 136 = .ok (.getfield 337, 3) := by decide +kernel
theorem dX12_buy_139 : decode cX12_buy 139 = .ok (.iload_n 1, 1) := by decide +kernel
theorem dX12_buy_140 : decode cX12_buy 140 = .ok (.iastore, 1) := by decide +kernel
theorem dX12_buy_141 : decode cX12_buy 141 = .ok (.aload_n 0, 1) := by decide +kernel
theorem dX12_buy_142 : decode cX12_buy 142 = .ok (.getfield 110, 3) := by decide +kernel
theorem dX12_buy_145 : decode cX12_buy 145 = .ok (.aload_n 0, 1) := by decide +kernel
theorem dX12_buy_146 : decode cX12_buy 146 = .ok (.getfield 337, 3) := by decide +kernel
theorem dX12_buy_149 : decode cX12_buy 149 = .ok (.iload_n 2, 1) := by decide +kernel
theorem dX12_buy_150 : decode cX12_buy 150 = .ok (.iastore, 1) := by decide +kernel
theorem dX12_buy_151 : decode cX12_buy 151 = .ok (.aload_n 0, 1) := by decide +kernel
theorem dX12_buy_152 : decode cX12_buy 152 = .ok (.getfield 113, 3) := by decide +kernel
theorem dX12_buy_155 : decode cX12_buy 155 = .ok (.aload_n 0, 1) := by decide +kernel
theorem dX12_buy_156 : decode cX12_buy 156 = .ok (.getfield 337, 3) := by decide +kernel
theorem dX12_buy_159 : decode cX12_buy 159 = .ok (.aload_n 0, 1) := by decide +kernel
theorem dX12_buy_160 : decode cX12_buy 160 = .ok (.getfield 200, 3) := by decide +kernel
theorem dX12_buy_163 : decode cX12_buy 163 = .ok (.iastore, 1) := by decide +kernel
theorem dX12_buy_164 : decode cX12_buy 164 = .ok (.aload_n 0, 1) := by decide +kernel
theorem dX12_buy_165 : decode cX12_buy 165 = .ok (.getfield 116, 3) := by decide +kernel
theorem dX12_buy_168 : decode cX12_buy 168 = .ok (.aload_n 0, 1) := by decide +kernel
theorem dX12_buy_169 : decode cX12_buy 169 = .ok (.getfield 337, 3) := by decide +kernel
theorem dX12_buy_172 : decode cX12_buy 172 = .ok (.aload_n 0, 1) := by decide +kernel
theorem dX12_buy_173 : decode cX12_buy 173 = .ok (.getfield 37, 3) := by decide +kernel
theorem dX12_buy_176 : decode cX12_buy 176 = .ok (.bipush 10, 2) := by decide +kernel
theorem dX12_buy_178 : decode cX12_buy 178 = .ok (.iload_n 1, 1) := by decide +kernel
theorem dX12_buy_179 : decode cX12_buy 179 = .ok (.imul, 1) := by decide +kernel
theorem dX12_buy_180 : decode cX12_buy 180 = .ok (.iload_n 2, 1) := by decide +kernel
theorem dX12_buy_181 : decode cX12_buy 181 = .ok (.iadd, 1) := by decide +kernel
theorem dX12_buy_182 : decode cX12_buy 182 = .ok (.iaload, 1) := by decide +kernel
theorem dX12_buy_183 : decode cX12_buy 183 = .ok (.iastore, 1) := by decide +kernel
theorem dX12_buy_184 : decode cX12_buy 184 = .ok (.aload_n 0, 1) := by decide +kernel
theorem dX12_buy_185 : decode cX12_buy 185 = .ok (.getfield 119, 3) := by decide +kernel
theorem dX12_buy_188 : decode cX12_buy 188 = .ok (.aload_n 0, 1) := by decide +kernel
theorem dX12_buy_189 : decode cX12_buy 189 = .ok (.getfield 337, 3) := by decide +kernel
theorem dX12_buy_192 : decode cX12_buy 192 = .ok (.aload_n 0, 1) := by decide +kernel
theorem dX12_buy_193 : decode cX12_buy 193 = .ok (.getfield 34, 3) := by decide +kernel
theorem dX12_buy_196 : decode cX12_buy 196 = .ok (.aload_n 0, 1) := by decide +kernel
theorem dX12_buy_197 : decode cX12_buy 197 = .ok (.invokevirtual 230, 3) := by decide +kernel
theorem dX12_buy_200 : decode cX12_buy 200 = .ok (.iaload, 1) := by decide +kernel
theorem dX12_buy_201 : decode cX12_buy 201 = .ok (.iastore, 1) := by decide +kernel
theorem dX12_buy_202 : decode cX12_buy 202 = .ok (.aload_n 0, 1) := by decide +kernel
theorem dX12_buy_203 : decode cX12_buy 203 = .ok (.getfield 122, 3) := by decide +kernel
theorem dX12_buy_206 : decode cX12_buy 206 = .ok (.aload_n 0, 1) := by decide +kernel
theorem dX12_buy_207 : decode cX12_buy 207 = .ok (.getfield 337, 3) := by decide +kernel
theorem dX12_buy_210 : decode cX12_buy 210 = .ok (.iload_n 3, 1) := by decide +kernel
theorem dX12_buy_211 : decode cX12_buy 211 = .ok (.iastore, 1) := by decide +kernel
theorem dX12_buy_212 : decode cX12_buy 212 = .ok (.aload_n 0, 1) := by decide +kernel
theorem dX12_buy_213 : decode cX12_buy 213 = .ok (.getfield 125, 3) := by decide +kernel
theorem dX12_buy_216 : decode cX12_buy 216 = .ok (.aload_n 0, 1) := by decide +kernel
theorem dX12_buy_217 : decode cX12_buy 217 = .ok (.getfield 337, 3) := by decide +kernel
theorem dX12_buy_220 : decode cX12_buy 220 = .ok (.iload_n 3, 1) := by decide +kernel
theorem dX12_buy_221 : decode cX12_buy 221 = .ok (.iload 4, 2) := by decide +kernel
theorem dX12_buy_223 : decode cX12_buy 223 = .ok (.isub, 1) := by decide +kernel
theorem dX12_buy_224 : decode cX12_buy 224 = .ok (.iastore, 1) := by decide +kernel
theorem dX12_buy_225 : decode cX12_buy 225 = .ok (.aload_n 0, 1) := by decide +kernel
theorem dX12_buy_226 : decode cX12_buy 226 = .ok (.dup, 1) := by decide +kernel
theorem dX12_buy_227 : decode cX12_buy 227 = .ok (.getfield 337, 3) := by decide +kernel
theorem dX12_buy_230 : decode cX12_buy 230 = .ok (.iconst 1, 1) := by decide +kernel
theorem dX12_buy_231 : decode cX12_buy 231 = .ok (.iadd, 1) := by decide +kernel
theorem dX12_buy_232 : decode cX12_buy 232 = .ok (.putfield 337, 3) := by decide +kernel
theorem dX12_buy_235 : decode cX12_buy 235 = .ok (.aload_n 0, 1) := by decide +kernel
theorem dX12_buy_236 : decode cX12_buy 236 = .ok (.getfield 16, 3) := by decide +kernel
theorem dX12_buy_239 : decode cX12_buy 239 = .ok (.iload_n 1, 1) := by decide +kernel
theorem dX12_buy_240 : decode cX12_buy 240 = .ok (.dup2, 1) := by decide +kernel
theorem dX12_buy_241 : decode cX12_buy 241 = .ok (.iaload, 1) := by decide +kernel
theorem dX12_buy_242 : decode cX12_buy 242 = .ok (.iload_n 3, 1) := by decide +kernel
theorem dX12_buy_243 : decode cX12_buy 243 = .ok (.iload 4, 2) := by decide +kernel
theorem dX12_buy_245 : decode cX12_buy 245 = .ok (.isub, 1) := by decide +kernel
theorem dX12_buy_246 : decode cX12_buy 246 = .ok (.aload_n 0, 1) := by decide +kernel
theorem dX12_buy_247 : decode cX12_buy 247 = .ok (.iload_n 2, 1) := by decide +kernel
theorem dX12_buy_248 : decode cX12_buy 248 = .ok (.aload_n 0, 1) := by decide +kernel
theorem dX12_buy_249 : decode cX12_buy 249 = .ok (.getfield 37, 3) := by decide +kernel
theorem dX12_buy_252 : decode cX12_buy 252 = .ok (.bipush 10, 2) := by decide +kernel
theorem dX12_buy_254 : decode cX12_buy 254 = .ok (.iload_n 1, 1) := by decide +kernel
theorem dX12_buy_255 : decode cX12_buy 255 = .ok (.imul, 1) := by decide +kernel
theorem dX12_buy_256 : decode cX12_buy 256 = .ok (.iload_n 2, 1) := by decide +kernel
theorem dX12_buy_257 : decode cX12_buy 257 = .ok (.iadd, 1) := by decide +kernel
theorem dX12_buy_258 : decode cX12_buy 258 = .ok (.iaload, 1) := by decide +kernel
theorem dX12_buy_259 : decode cX12_buy 259 = .ok (.invokevirtual 216, 3) := by decide +kernel
theorem dX12_buy_262 : decode cX12_buy 262 = .ok (.imul, 1) := by decide +kernel
theorem dX12_buy_263 : decode cX12_buy 263 = .ok (.iadd, 1) := by decide +kernel
theorem dX12_buy_264 : decode cX12_buy 264 = .ok (.iastore, 1) := by decide +kernel
theorem dX12_buy_265 : decode cX12_buy 265 = .ok (.iload_n 3, 1) := by decide +kernel
theorem dX12_buy_266 : decode cX12_buy 266 = .ok (.iload 4, 2) := by decide +kernel
theorem dX12_buy_268 : decode cX12_buy 268 = .ok (.isub, 1) := by decide +kernel
theorem dX12_buy_269 : decode cX12_buy 269 = .ok (.ireturn, 1) := by decide +kernel
theorem dX12_foretoldFor_0 : decode cX12_foretoldFor 0 = .ok (.iconst 0, 1) := by decide +kernel
theorem dX12_foretoldFor_1 : decode cX12_foretoldFor 1 = .ok (.istore 7, 2) := by decide +kernel
theorem dX12_foretoldFor_3 : decode cX12_foretoldFor 3 = .ok (.iload 7, 2) := by decide +kernel
theorem dX12_foretoldFor_5 : decode cX12_foretoldFor 5 = .ok (.iconst 3, 1) := by decide +kernel
theorem dX12_foretoldFor_6 : decode cX12_foretoldFor 6 = .ok (.if_icmp .ge 170, 3) := by decide +kernel
theorem dX12_foretoldFor_9 : decode cX12_foretoldFor 9 = .ok (.iconst 0, 1) := by decide +kernel
theorem dX12_foretoldFor_10 : decode cX12_foretoldFor 10 = .ok (.istore 8, 2) := by decide +kernel
theorem dX12_foretoldFor_12 : decode cX12_foretoldFor 12 = .ok (.iconst 0, 1) := by decide +kernel
theorem dX12_foretoldFor_13 : decode cX12_foretoldFor 13 = .ok (.istore 9, 2) := by decide +kernel
theorem dX12_foretoldFor_15 : decode cX12_foretoldFor 15 = .ok (.iconst 0, 1) := by decide +kernel
theorem dX12_foretoldFor_16 : decode cX12_foretoldFor 16 = .ok (.istore 10, 2) := by decide +kernel
theorem dX12_foretoldFor_18 : decode cX12_foretoldFor 18 = .ok (.iload 10, 2) := by decide +kernel
theorem dX12_foretoldFor_20 : decode cX12_foretoldFor 20 = .ok (.aload_n 0, 1) := by decide +kernel
theorem dX12_foretoldFor_21 : decode cX12_foretoldFor 21 = .ok (.getfield 337, 3) := by decide +kernel
theorem dX12_foretoldFor_24 : decode cX12_foretoldFor 24 = .ok (.if_icmp .ge 116, 3) := by decide +kernel
theorem dX12_foretoldFor_27 : decode cX12_foretoldFor 27 = .ok (.aload_n 0, 1) := by decide +kernel
theorem dX12_foretoldFor_28 : decode cX12_foretoldFor 28 = .ok (.getfield 110, 3) := by decide +kernel
theorem dX12_foretoldFor_31 : decode cX12_foretoldFor 31 = .ok (.iload 10, 2) := by decide +kernel
theorem dX12_foretoldFor_33 : decode cX12_foretoldFor 33 = .ok (.iaload, 1) := by decide +kernel
theorem dX12_foretoldFor_34 : decode cX12_foretoldFor 34 = .ok (.iload_n 2, 1) := by decide +kernel
theorem dX12_foretoldFor_35 : decode cX12_foretoldFor 35 = .ok (.if_icmp .ne 99, 3) := by decide +kernel
theorem dX12_foretoldFor_38 : decode cX12_foretoldFor 38 = .ok (.aload_n 0, 1) := by decide +kernel
theorem dX12_foretoldFor_39 : decode cX12_foretoldFor 39 = .ok (.getfield 113, 3) := by decide +kernel
theorem dX12_foretoldFor_42 : decode cX12_foretoldFor 42 = .ok (.iload 10, 2) := by decide +kernel
theorem dX12_foretoldFor_44 : decode cX12_foretoldFor 44 = .ok (.iaload, 1) := by decide +kernel
theorem dX12_foretoldFor_45 : decode cX12_foretoldFor 45 = .ok (.bipush 24, 2) := by decide +kernel
theorem dX12_foretoldFor_47 : decode cX12_foretoldFor 47 = .ok (.irem, 1) := by decide +kernel
theorem dX12_foretoldFor_48 : decode cX12_foretoldFor 48 = .ok (.iload_n 3, 1) := by decide +kernel
theorem dX12_foretoldFor_49 : decode cX12_foretoldFor 49 = .ok (.if_icmp .ne 85, 3) := by decide +kernel
theorem dX12_foretoldFor_52 : decode cX12_foretoldFor 52 = .ok (.aload_n 0, 1) := by decide +kernel
theorem dX12_foretoldFor_53 : decode cX12_foretoldFor 53 = .ok (.getfield 116, 3) := by decide +kernel
theorem dX12_foretoldFor_56 : decode cX12_foretoldFor 56 = .ok (.iload 10, 2) := by decide +kernel
theorem dX12_foretoldFor_58 : decode cX12_foretoldFor 58 = .ok (.iaload, 1) := by decide +kernel
theorem dX12_foretoldFor_59 : decode cX12_foretoldFor 59 = .ok (.iload 4, 2) := by decide +kernel
theorem dX12_foretoldFor_61 : decode cX12_foretoldFor 61 = .ok (.if_icmp .ne 73, 3) := by decide +kernel
theorem dX12_foretoldFor_64 : decode cX12_foretoldFor 64 = .ok (.aload_n 0, 1) := by decide +kernel
theorem dX12_foretoldFor_65 : decode cX12_foretoldFor 65 = .ok (.getfield 113, 3) := by decide +kernel
theorem dX12_foretoldFor_68 : decode cX12_foretoldFor 68 = .ok (.iload 10, 2) := by decide +kernel
theorem dX12_foretoldFor_70 : decode cX12_foretoldFor 70 = .ok (.iaload, 1) := by decide +kernel
theorem dX12_foretoldFor_71 : decode cX12_foretoldFor 71 = .ok (.bipush 24, 2) := by decide +kernel
theorem dX12_foretoldFor_73 : decode cX12_foretoldFor 73 = .ok (.idiv, 1) := by decide +kernel
theorem dX12_foretoldFor_74 : decode cX12_foretoldFor 74 = .ok (.iload 6, 2) := by decide +kernel
theorem dX12_foretoldFor_76 : decode cX12_foretoldFor 76 = .ok (.if_icmp .le 6, 3) := by decide +kernel
theorem dX12_foretoldFor_79 : decode cX12_foretoldFor 79 = .ok (.goto 55, 3) := by decide +kernel
theorem dX12_foretoldFor_82 : decode cX12_foretoldFor 82 = .ok (.iload 7, 2) := by decide +kernel
theorem dX12_foretoldFor_84 : decode cX12_foretoldFor 84 = .ok (.iconst 2, 1) := by decide +kernel
theorem dX12_foretoldFor_85 : decode cX12_foretoldFor 85 = .ok (.if_icmp .ge 14, 3) := by decide +kernel
theorem dX12_foretoldFor_88 : decode cX12_foretoldFor 88 = .ok (.aload_n 0, 1) := by decide +kernel
theorem dX12_foretoldFor_89 : decode cX12_foretoldFor 89 = .ok (.getfield 107, 3) := by decide +kernel
theorem dX12_foretoldFor_92 : decode cX12_foretoldFor 92 = .ok (.iload 10, 2) := by decide +kernel
theorem dX12_foretoldFor_94 : decode cX12_foretoldFor 94 = .ok (.iaload, 1) := by decide +kernel
theorem dX12_foretoldFor_95 : decode cX12_foretoldFor 95 = .ok (.iload_n 1, 1) := by decide +kernel
theorem dX12_foretoldFor_96 : decode cX12_foretoldFor 96 = .ok (.if_icmp .ne 38, 3) := by decide +kernel
theorem dX12_foretoldFor_99 : decode cX12_foretoldFor 99 = .ok (.iload 7, 2) := by decide +kernel
theorem dX12_foretoldFor_101 : decode cX12_foretoldFor 101 = .ok (.ifCond .ne 18, 3) := by decide +kernel
theorem dX12_foretoldFor_104 : decode cX12_foretoldFor 104 = .ok (.aload_n 0, 1) := by decide +kernel
theorem dX12_foretoldFor_105 : decode cX12_foretoldFor 105 = .ok (.getfield 119, 3) := by decide +kernel
theorem dX12_foretoldFor_108 : decode cX12_foretoldFor 108 = .ok (.iload 10, 2) := by decide +kernel
theorem dX12_foretoldFor_110 : decode cX12_foretoldFor 110 = .ok (.iaload, 1) := by decide +kernel
theorem dX12_foretoldFor_111 : decode cX12_foretoldFor 111 = .ok (.iload 5, 2) := by decide +kernel
theorem dX12_foretoldFor_113 : decode cX12_foretoldFor 113 = .ok (.if_icmp .eq 6, 3) := by decide +kernel
theorem dX12_foretoldFor_116 : decode cX12_foretoldFor 116 = .ok (.goto 18, 3) := by decide +kernel
theorem dX12_foretoldFor_119 : decode cX12_foretoldFor 119 = .ok (.iinc 8 1, 3) := by decide +kernel
theorem dX12_foretoldFor_122 : decode cX12_foretoldFor 122 = .ok (.iload 9, 2) := by decide +kernel
theorem dX12_foretoldFor_124 : decode cX12_foretoldFor 124 = .ok (.aload_n 0, 1) := by decide +kernel
theorem dX12_foretoldFor_125 : decode cX12_foretoldFor 125 = .ok (.getfield 122, 3) := by decide +kernel
theorem dX12_foretoldFor_128 : decode cX12_foretoldFor 128 = .ok (.iload 10, 2) := by decide +kernel
theorem dX12_foretoldFor_130 : decode cX12_foretoldFor 130 = .ok (.iaload, 1) := by decide +kernel
theorem dX12_foretoldFor_131 : decode cX12_foretoldFor 131 = .ok (.iadd, 1) := by decide +kernel
theorem dX12_foretoldFor_132 : decode cX12_foretoldFor 132 = .ok (.istore 9, 2) := by decide +kernel
theorem dX12_foretoldFor_134 : decode cX12_foretoldFor 134 = .ok (.iinc 10 1, 3) := by decide +kernel
theorem dX12_foretoldFor_137 : decode cX12_foretoldFor 137 = .ok (.goto (-119), 3) := by decide +kernel
theorem dX12_foretoldFor_140 : decode cX12_foretoldFor 140 = .ok (.iload 8, 2) := by decide +kernel
theorem dX12_foretoldFor_142 : decode cX12_foretoldFor 142 = .ok (.iconst 3, 1) := by decide +kernel
theorem dX12_foretoldFor_143 : decode cX12_foretoldFor 143 = .ok (.if_icmp .ge 14, 3) := by decide +kernel
theorem dX12_foretoldFor_146 : decode cX12_foretoldFor 146 = .ok (.iload 7, 2) := by decide +kernel
theorem dX12_foretoldFor_148 : decode cX12_foretoldFor 148 = .ok (.iconst 2, 1) := by decide +kernel
theorem dX12_foretoldFor_149 : decode cX12_foretoldFor 149 = .ok (.if_icmp .ne 21, 3) := by decide +kernel
theorem dX12_foretoldFor_152 : decode cX12_foretoldFor 152 = .ok (.iload 8, 2) := by decide +kernel
theorem dX12_foretoldFor_154 : decode cX12_foretoldFor 154 = .ok (.ifCond .le 16, 3) := by decide +kernel
theorem dX12_foretoldFor_157 : decode cX12_foretoldFor 157 = .ok (.iconst 2, 1) := by decide +kernel
theorem dX12_foretoldFor_158 : decode cX12_foretoldFor 158 = .ok (.iload 9, 2) := by decide +kernel
theorem dX12_foretoldFor_160 : decode cX12_foretoldFor 160 = .ok (.imul, 1) := by decide +kernel
theorem dX12_foretoldFor_161 : decode cX12_foretoldFor 161 = .ok (.iload 8, 2) := by decide +kernel
theorem dX12_foretoldFor_163 : decode cX12_foretoldFor 163 = .ok (.iadd, 1) := by decide +kernel
theorem dX12_foretoldFor_164 : decode cX12_foretoldFor 164 = .ok (.iconst 2, 1) := by decide +kernel
theorem dX12_foretoldFor_165 : decode cX12_foretoldFor 165 = .ok (.iload 8, 2) := by decide +kernel
theorem dX12_foretoldFor_167 : decode cX12_foretoldFor 167 = .ok (.imul, 1) := by decide +kernel
theorem dX12_foretoldFor_168 : decode cX12_foretoldFor 168 = .ok (.idiv, 1) := by decide +kernel
theorem dX12_foretoldFor_169 : decode cX12_foretoldFor 169 = .ok (.ireturn, 1) := by decide +kernel
theorem dX12_foretoldFor_170 : decode cX12_foretoldFor 170 = .ok (.iinc 7 1, 3) := by decide +kernel
theorem dX12_foretoldFor_173 : decode cX12_foretoldFor 173 = .ok (.goto (-170), 3) := by decide +kernel
theorem dX12_foretoldFor_176 : decode cX12_foretoldFor 176 = .ok (.iconst 0, 1) := by decide +kernel
theorem dX12_foretoldFor_177 : decode cX12_foretoldFor 177 = .ok (.ireturn, 1) := by decide +kernel
theorem dX12_foretold_0 : decode cX12_foretold 0 = .ok (.aload_n 0, 1) := by decide +kernel
theorem dX12_foretold_1 : decode cX12_foretold 1 = .ok (.iload_n 1, 1) := by decide +kernel
theorem dX12_foretold_2 : decode cX12_foretold 2 = .ok (.iload_n 2, 1) := by decide +kernel
theorem dX12_foretold_3 : decode cX12_foretold 3 = .ok (.invokevirtual 223, 3) := by decide +kernel
theorem dX12_foretold_6 : decode cX12_foretold 6 = .ok (.ifCond .eq 43, 3) := by decide +kernel
theorem dX12_foretold_9 : decode cX12_foretold 9 = .ok (.iload_n 3, 1) := by decide +kernel
theorem dX12_foretold_10 : decode cX12_foretold 10 = .ok (.sipush 600, 3) := by decide +kernel
theorem dX12_foretold_13 : decode cX12_foretold 13 = .ok (.sipush 1932, 3) := by decide +kernel
theorem dX12_foretold_16 : decode cX12_foretold 16 = .ok (.invokestatic 196, 3) := by decide +kernel
theorem dX12_foretold_19 : decode cX12_foretold 19 = .ok (.ifCond .eq 30, 3) := by decide +kernel
theorem dX12_foretold_22 : decode cX12_foretold 22 = .ok (.iload_n 3, 1) := by decide +kernel
theorem dX12_foretold_23 : decode cX12_foretold 23 = .ok (.bipush 10, 2) := by decide +kernel
theorem dX12_foretold_25 : decode cX12_foretold 25 = .ok (.idiv, 1) := by decide +kernel
theorem dX12_foretold_26 : decode cX12_foretold 26 = .ok (.bipush 10, 2) := by decide +kernel
theorem dX12_foretold_28 : decode cX12_foretold 28 = .ok (.irem, 1) := by decide +kernel
theorem dX12_foretold_29 : decode cX12_foretold 29 = .ok (.iconst 3, 1) := by decide +kernel
theorem dX12_foretold_30 : decode cX12_foretold 30 = .ok (.if_icmp .gt 19, 3) := by decide +kernel
theorem dX12_foretold_33 : decode cX12_foretold 33 = .ok (.iload_n 3, 1) := by decide +kernel
theorem dX12_foretold_34 : decode cX12_foretold 34 = .ok (.bipush 10, 2) := by decide +kernel
theorem dX12_foretold_36 : decode cX12_foretold 36 = .ok (.irem, 1) := by decide +kernel
theorem dX12_foretold_37 : decode cX12_foretold 37 = .ok (.iconst 2, 1) := by decide +kernel
theorem dX12_foretold_38 : decode cX12_foretold 38 = .ok (.if_icmp .gt 11, 3) := by decide +kernel
theorem dX12_foretold_41 : decode cX12_foretold 41 = .ok (.iload 4, 2) := by decide +kernel
theorem dX12_foretold_43 : decode cX12_foretold 43 = .ok (.invokestatic 220, 3) := by decide +kernel
theorem dX12_foretold_46 : decode cX12_foretold 46 = .ok (.ifCond .ne 5, 3) := by decide +kernel
theorem dX12_foretold_49 : decode cX12_foretold 49 = .ok (.iconst (-1), 1) := by decide +kernel
theorem dX12_foretold_50 : decode cX12_foretold 50 = .ok (.ireturn, 1) := by decide +kernel
theorem dX12_foretold_51 : decode cX12_foretold 51 = .ok (.aload_n 0, 1) := by decide +kernel
theorem dX12_foretold_52 : decode cX12_foretold 52 = .ok (.iload_n 1, 1) := by decide +kernel
theorem dX12_foretold_53 : decode cX12_foretold 53 = .ok (.iload_n 2, 1) := by decide +kernel
theorem dX12_foretold_54 : decode cX12_foretold 54 = .ok (.iload_n 3, 1) := by decide +kernel
theorem dX12_foretold_55 : decode cX12_foretold 55 = .ok (.bipush 100, 2) := by decide +kernel
theorem dX12_foretold_57 : decode cX12_foretold 57 = .ok (.idiv, 1) := by decide +kernel
theorem dX12_foretold_58 : decode cX12_foretold 58 = .ok (.iload_n 3, 1) := by decide +kernel
theorem dX12_foretold_59 : decode cX12_foretold 59 = .ok (.bipush 10, 2) := by decide +kernel
theorem dX12_foretold_61 : decode cX12_foretold 61 = .ok (.idiv, 1) := by decide +kernel
theorem dX12_foretold_62 : decode cX12_foretold 62 = .ok (.bipush 10, 2) := by decide +kernel
theorem dX12_foretold_64 : decode cX12_foretold 64 = .ok (.irem, 1) := by decide +kernel
theorem dX12_foretold_65 : decode cX12_foretold 65 = .ok (.iload_n 3, 1) := by decide +kernel
theorem dX12_foretold_66 : decode cX12_foretold 66 = .ok (.bipush 10, 2) := by decide +kernel
theorem dX12_foretold_68 : decode cX12_foretold 68 = .ok (.irem, 1) := by decide +kernel
theorem dX12_foretold_69 : decode cX12_foretold 69 = .ok (.iload 4, 2) := by decide +kernel
theorem dX12_foretold_71 : decode cX12_foretold 71 = .ok (.invokevirtual 350, 3) := by decide +kernel
theorem dX12_foretold_74 : decode cX12_foretold 74 = .ok (.ireturn, 1) := by decide +kernel
theorem dX12_plan_0 : decode cX12_plan 0 = .ok (.aload_n 0, 1) := by decide +kernel
theorem dX12_plan_1 : decode cX12_plan 1 = .ok (.iload_n 1, 1) := by decide +kernel
theorem dX12_plan_2 : decode cX12_plan 2 = .ok (.iload_n 2, 1) := by decide +kernel
theorem dX12_plan_3 : decode cX12_plan 3 = .ok (.invokevirtual 223, 3) := by decide +kernel
theorem dX12_plan_6 : decode cX12_plan 6 = .ok (.ifCond .eq 19, 3) := by decide +kernel
theorem dX12_plan_9 : decode cX12_plan 9 = .ok (.aload_n 0, 1) := by decide +kernel
theorem dX12_plan_10 : decode cX12_plan 10 = .ok (.invokevirtual 340, 3) := by decide +kernel
theorem dX12_plan_13 : decode cX12_plan 13 = .ok (.ifCond .eq 12, 3) := by decide +kernel
theorem dX12_plan_16 : decode cX12_plan 16 = .ok (.aload_n 0, 1) := by decide +kernel
theorem dX12_plan_17 : decode cX12_plan 17 = .ok (.iload_n 1, 1) := by decide +kernel
theorem dX12_plan_18 : decode cX12_plan 18 = .ok (.iload_n 2, 1) := by decide +kernel
theorem dX12_plan_19 : decode cX12_plan 19 = .ok (.invokevirtual 344, 3) := by decide +kernel
theorem dX12_plan_22 : decode cX12_plan 22 = .ok (.ifCond .eq 6, 3) := by decide +kernel
theorem dX12_plan_25 : decode cX12_plan 25 = .ok (.ldc 244, 2) := by decide +kernel
theorem dX12_plan_27 : decode cX12_plan 27 = .ok (.ireturn, 1) := by decide +kernel
theorem dX12_plan_28 : decode cX12_plan 28 = .ok (.aload_n 0, 1) := by decide +kernel
theorem dX12_plan_29 : decode cX12_plan 29 = .ok (.invokevirtual 315, 3) := by decide +kernel
theorem dX12_plan_32 : decode cX12_plan 32 = .ok (.istore_n 3, 1) := by decide +kernel
theorem dX12_plan_33 : decode cX12_plan 33 = .ok (.iload_n 3, 1) := by decide +kernel
theorem dX12_plan_34 : decode cX12_plan 34 = .ok (.istore 4, 2) := by decide +kernel
theorem dX12_plan_36 : decode cX12_plan 36 = .ok (.iload 4, 2) := by decide +kernel
theorem dX12_plan_38 : decode cX12_plan 38 = .ok (.bipush 19, 2) := by decide +kernel
theorem dX12_plan_40 : decode cX12_plan 40 = .ok (.if_icmp .gt 59, 3) := by decide +kernel
theorem dX12_plan_43 : decode cX12_plan 43 = .ok (.iconst 0, 1) := by decide +kernel
theorem dX12_plan_44 : decode cX12_plan 44 = .ok (.istore 5, 2) := by decide +kernel
theorem dX12_plan_46 : decode cX12_plan 46 = .ok (.iload 5, 2) := by decide +kernel
theorem dX12_plan_48 : decode cX12_plan 48 = .ok (.iconst 4, 1) := by decide +kernel
theorem dX12_plan_49 : decode cX12_plan 49 = .ok (.if_icmp .ge 44, 3) := by decide +kernel
theorem dX12_plan_52 : decode cX12_plan 52 = .ok (.aload_n 0, 1) := by decide +kernel
theorem dX12_plan_53 : decode cX12_plan 53 = .ok (.getfield 134, 3) := by decide +kernel
theorem dX12_plan_56 : decode cX12_plan 56 = .ok (.iconst 4, 1) := by decide +kernel
theorem dX12_plan_57 : decode cX12_plan 57 = .ok (.iload 4, 2) := by decide +kernel
theorem dX12_plan_59 : decode cX12_plan 59 = .ok (.imul, 1) := by decide +kernel
theorem dX12_plan_60 : decode cX12_plan 60 = .ok (.iload 5, 2) := by decide +kernel
theorem dX12_plan_62 : decode cX12_plan 62 = .ok (.iadd, 1) := by decide +kernel
theorem dX12_plan_63 : decode cX12_plan 63 = .ok (.aload_n 0, 1) := by decide +kernel
theorem dX12_plan_64 : decode cX12_plan 64 = .ok (.iload_n 1, 1) := by decide +kernel
theorem dX12_plan_65 : decode cX12_plan 65 = .ok (.iload_n 2, 1) := by decide +kernel
theorem dX12_plan_66 : decode cX12_plan 66 = .ok (.iload 4, 2) := by decide +kernel
theorem dX12_plan_68 : decode cX12_plan 68 = .ok (.iload 5, 2) := by decide +kernel
theorem dX12_plan_70 : decode cX12_plan 70 = .ok (.aload_n 0, 1) := by decide +kernel
theorem dX12_plan_71 : decode cX12_plan 71 = .ok (.getfield 34, 3) := by decide +kernel
theorem dX12_plan_74 : decode cX12_plan 74 = .ok (.aload_n 0, 1) := by decide +kernel
theorem dX12_plan_75 : decode cX12_plan 75 = .ok (.invokevirtual 230, 3) := by decide +kernel
theorem dX12_plan_78 : decode cX12_plan 78 = .ok (.iaload, 1) := by decide +kernel
theorem dX12_plan_79 : decode cX12_plan 79 = .ok (.aload_n 0, 1) := by decide +kernel
theorem dX12_plan_80 : decode cX12_plan 80 = .ok (.invokevirtual 230, 3) := by decide +kernel
theorem dX12_plan_83 : decode cX12_plan 83 = .ok (.invokevirtual 350, 3) := by decide +kernel
theorem dX12_plan_86 : decode cX12_plan 86 = .ok (.iastore, 1) := by decide +kernel
theorem dX12_plan_87 : decode cX12_plan 87 = .ok (.iinc 5 1, 3) := by decide +kernel
theorem dX12_plan_90 : decode cX12_plan 90 = .ok (.goto (-44), 3) := by decide +kernel
theorem dX12_plan_93 : decode cX12_plan 93 = .ok (.iinc 4 1, 3) := by decide +kernel
theorem dX12_plan_96 : decode cX12_plan 96 = .ok (.goto (-60), 3) := by decide +kernel
theorem dX12_plan_99 : decode cX12_plan 99 = .ok (.aload_n 0, 1) := by decide +kernel
theorem dX12_plan_100 : decode cX12_plan 100 = .ok (.iload_n 1, 1) := by decide +kernel
theorem dX12_plan_101 : decode cX12_plan 101 = .ok (.iload_n 2, 1) := by decide +kernel
theorem dX12_plan_102 : decode cX12_plan 102 = .ok (.iconst 1, 1) := by decide +kernel
theorem dX12_plan_103 : decode cX12_plan 103 = .ok (.invokevirtual 330, 3) := by decide +kernel
theorem dX12_plan_106 : decode cX12_plan 106 = .ok (.istore 4, 2) := by decide +kernel
theorem dX12_plan_108 : decode cX12_plan 108 = .ok (.aload_n 0, 1) := by decide +kernel
theorem dX12_plan_109 : decode cX12_plan 109 = .ok (.getfield 37, 3) := by decide +kernel
theorem dX12_plan_112 : decode cX12_plan 112 = .ok (.bipush 10, 2) := by decide +kernel
theorem dX12_plan_114 : decode cX12_plan 114 = .ok (.iload_n 1, 1) := by decide +kernel
theorem dX12_plan_115 : decode cX12_plan 115 = .ok (.imul, 1) := by decide +kernel
theorem dX12_plan_116 : decode cX12_plan 116 = .ok (.iload_n 2, 1) := by decide +kernel
theorem dX12_plan_117 : decode cX12_plan 117 = .ok (.iadd, 1) := by decide +kernel
theorem dX12_plan_118 : decode cX12_plan 118 = .ok (.iaload, 1) := by decide +kernel
theorem dX12_plan_119 : decode cX12_plan 119 = .ok (.istore 5, 2) := by decide +kernel
theorem dX12_plan_121 : decode cX12_plan 121 = .ok (.iload_n 3, 1) := by decide +kernel
theorem dX12_plan_122 : decode cX12_plan 122 = .ok (.istore 6, 2) := by decide +kernel
theorem dX12_plan_124 : decode cX12_plan 124 = .ok (.iload 6, 2) := by decide +kernel
theorem dX12_plan_126 : decode cX12_plan 126 = .ok (.bipush 19, 2) := by decide +kernel
theorem dX12_plan_128 : decode cX12_plan 128 = .ok (.if_icmp .gt 18, 3) := by decide +kernel
theorem dX12_plan_131 : decode cX12_plan 131 = .ok (.aload_n 0, 1) := by decide +kernel
theorem dX12_plan_132 : decode cX12_plan 132 = .ok (.getfield 128, 3) := by decide +kernel
theorem dX12_plan_135 : decode cX12_plan 135 = .ok (.iload 6, 2) := by decide +kernel
theorem dX12_plan_137 : decode cX12_plan 137 = .ok (.iload 5, 2) := by decide +kernel
theorem dX12_plan_139 : decode cX12_plan 139 = .ok (.iastore, 1) := by decide +kernel
theorem dX12_plan_140 : decode cX12_plan 140 = .ok (.iinc 6 1, 3) := by decide +kernel
theorem dX12_plan_143 : decode cX12_plan 143 = .ok (.goto (-19), 3) := by decide +kernel
theorem dX12_plan_146 : decode cX12_plan 146 = .ok (.lconst 0, 1) := by decide +kernel
theorem dX12_plan_147 : decode cX12_plan 147 = .ok (.lstore 6, 2) := by decide +kernel
theorem dX12_plan_149 : decode cX12_plan 149 = .ok (.iconst 1, 1) := by decide +kernel
theorem dX12_plan_150 : decode cX12_plan 150 = .ok (.istore 8, 2) := by decide +kernel
theorem dX12_plan_152 : decode cX12_plan 152 = .ok (.bipush 19, 2) := by decide +kernel
theorem dX12_plan_154 : decode cX12_plan 154 = .ok (.istore 9, 2) := by decide +kernel
theorem dX12_plan_156 : decode cX12_plan 156 = .ok (.iload 9, 2) := by decide +kernel
theorem dX12_plan_158 : decode cX12_plan 158 = .ok (.iload_n 3, 1) := by decide +kernel
theorem dX12_plan_159 : decode cX12_plan 159 = .ok (.if_icmp .lt 254, 3) := by decide +kernel
theorem dX12_plan_162 : decode cX12_plan 162 = .ok (.iload 4, 2) := by decide +kernel
theorem dX12_plan_164 : decode cX12_plan 164 = .ok (.istore 10, 2) := by decide +kernel
theorem dX12_plan_166 : decode cX12_plan 166 = .ok (.lconst 0, 1) := by decide +kernel
theorem dX12_plan_167 : decode cX12_plan 167 = .ok (.lstore 11, 2) := by decide +kernel
theorem dX12_plan_169 : decode cX12_plan 169 = .ok (.iload_n 3, 1) := by decide +kernel
theorem dX12_plan_170 : decode cX12_plan 170 = .ok (.istore 13, 2) := by decide +kernel
theorem dX12_plan_172 : decode cX12_plan 172 = .ok (.iload 13, 2) := by decide +kernel
theorem dX12_plan_174 : decode cX12_plan 174 = .ok (.bipush 19, 2) := by decide +kernel
theorem dX12_plan_176 : decode cX12_plan 176 = .ok (.if_icmp .gt 84, 3) := by decide +kernel
theorem dX12_plan_179 : decode cX12_plan 179 = .ok (.aload_n 0, 1) := by decide +kernel
theorem dX12_plan_180 : decode cX12_plan 180 = .ok (.getfield 134, 3) := by decide +kernel
theorem dX12_plan_183 : decode cX12_plan 183 = .ok (.iconst 4, 1) := by decide +kernel
theorem dX12_plan_184 : decode cX12_plan 184 = .ok (.iload 13, 2) := by decide +kernel
theorem dX12_plan_186 : decode cX12_plan 186 = .ok (.imul, 1) := by decide +kernel
theorem dX12_plan_187 : decode cX12_plan 187 = .ok (.aload_n 0, 1) := by decide +kernel
theorem dX12_plan_188 : decode cX12_plan 188 = .ok (.getfield 128, 3) := by decide +kernel
theorem dX12_plan_191 : decode cX12_plan 191 = .ok (.iload 13, 2) := by decide +kernel
theorem dX12_plan_193 : decode cX12_plan 193 = .ok (.iaload, 1) := by decide +kernel
theorem dX12_plan_194 : decode cX12_plan 194 = .ok (.iadd, 1) := by decide +kernel
theorem dX12_plan_195 : decode cX12_plan 195 = .ok (.iaload, 1) := by decide +kernel
theorem dX12_plan_196 : decode cX12_plan 196 = .ok (.iload 10, 2) := by decide +kernel
theorem dX12_plan_198 : decode cX12_plan 198 = .ok (.if_icmp .ge 23, 3) := by decide +kernel
theorem dX12_plan_201 : decode cX12_plan 201 = .ok (.aload_n 0, 1) := by decide +kernel
theorem dX12_plan_202 : decode cX12_plan 202 = .ok (.getfield 134, 3) := by decide +kernel
theorem dX12_plan_205 : decode cX12_plan 205 = .ok (.iconst 4, 1) := by decide +kernel
theorem dX12_plan_206 : decode cX12_plan 206 = .ok (.iload 13, 2) := by decide +kernel
theorem dX12_plan_208 : decode cX12_plan 208 = .ok (.imul, 1) := by decide +kernel
theorem dX12_plan_209 : decode cX12_plan 209 = .ok (.aload_n 0, 1) := by decide +kernel
theorem dX12_plan_210 : decode cX12_plan 210 = .ok (.getfield 128, 3) := by decide +kernel
theorem dX12_plan_213 : decode cX12_plan 213 = .ok (.iload 13, 2) := by decide +kernel
theorem dX12_plan_215 : decode cX12_plan 215 = .ok (.iaload, 1) := by decide +kernel
theorem dX12_plan_216 : decode cX12_plan 216 = .ok (.iadd, 1) := by decide +kernel
theorem dX12_plan_217 : decode cX12_plan 217 = .ok (.iaload, 1) := by decide +kernel
theorem dX12_plan_218 : decode cX12_plan 218 = .ok (.goto 5, 3) := by decide +kernel
theorem dX12_plan_221 : decode cX12_plan 221 = .ok (.iload 10, 2) := by decide +kernel
theorem dX12_plan_223 : decode cX12_plan 223 = .ok (.istore 14, 2) := by decide +kernel
theorem dX12_plan_225 : decode cX12_plan 225 = .ok (.iload 10, 2) := by decide +kernel
theorem dX12_plan_227 : decode cX12_plan 227 = .ok (.iload 14, 2) := by decide +kernel
theorem dX12_plan_229 : decode cX12_plan 229 = .ok (.isub, 1) := by decide +kernel
theorem dX12_plan_230 : decode cX12_plan 230 = .ok (.istore 10, 2) := by decide +kernel
theorem dX12_plan_232 : decode cX12_plan 232 = .ok (.lload 11, 2) := by decide +kernel
theorem dX12_plan_234 : decode cX12_plan 234 = .ok (.iload 14, 2) := by decide +kernel
theorem dX12_plan_236 : decode cX12_plan 236 = .ok (.i2l, 1) := by decide +kernel
theorem dX12_plan_237 : decode cX12_plan 237 = .ok (.aload_n 0, 1) := by decide +kernel
theorem dX12_plan_238 : decode cX12_plan 238 = .ok (.iload_n 2, 1) := by decide +kernel
theorem dX12_plan_239 : decode cX12_plan 239 = .ok (.aload_n 0, 1) := by decide +kernel
theorem dX12_plan_240 : decode cX12_plan 240 = .ok (.getfield 128, 3) := by decide +kernel
theorem dX12_plan_243 : decode cX12_plan 243 = .ok (.iload 13, 2) := by decide +kernel
theorem dX12_plan_245 : decode cX12_plan 245 = .ok (.iaload, 1) := by decide +kernel
theorem dX12_plan_246 : decode cX12_plan 246 = .ok (.invokevirtual 216, 3) := by decide +kernel
theorem dX12_plan_249 : decode cX12_plan 249 = .ok (.i2l, 1) := by decide +kernel
theorem dX12_plan_250 : decode cX12_plan 250 = .ok (.lmul, 1) := by decide +kernel
theorem dX12_plan_251 : decode cX12_plan 251 = .ok (.ladd, 1) := by decide +kernel
theorem dX12_plan_252 : decode cX12_plan 252 = .ok (.lstore 11, 2) := by decide +kernel
theorem dX12_plan_254 : decode cX12_plan 254 = .ok (.iinc 13 1, 3) := by decide +kernel
theorem dX12_plan_257 : decode cX12_plan 257 = .ok (.goto (-85), 3) := by decide +kernel
theorem dX12_plan_260 : decode cX12_plan 260 = .ok (.lload 11, 2) := by decide +kernel
theorem dX12_plan_262 : decode cX12_plan 262 = .ok (.iload 10, 2) := by decide +kernel
theorem dX12_plan_264 : decode cX12_plan 264 = .ok (.i2l, 1) := by decide +kernel
theorem dX12_plan_265 : decode cX12_plan 265 = .ok (.aload_n 0, 1) := by decide +kernel
theorem dX12_plan_266 : decode cX12_plan 266 = .ok (.getfield 31, 3) := by decide +kernel
theorem dX12_plan_269 : decode cX12_plan 269 = .ok (.iload_n 2, 1) := by decide +kernel
theorem dX12_plan_270 : decode cX12_plan 270 = .ok (.iaload, 1) := by decide +kernel
theorem dX12_plan_271 : decode cX12_plan 271 = .ok (.i2l, 1) := by decide +kernel
theorem dX12_plan_272 : decode cX12_plan 272 = .ok (.lmul, 1) := by decide +kernel
theorem dX12_plan_273 : decode cX12_plan 273 = .ok (.lsub, 1) := by decide +kernel
theorem dX12_plan_274 : decode cX12_plan 274 = .ok (.lstore 11, 2) := by decide +kernel
theorem dX12_plan_276 : decode cX12_plan 276 = .ok (.iload 8, 2) := by decide +kernel
theorem dX12_plan_278 : decode cX12_plan 278 = .ok (.ifCond .ne 11, 3) := by decide +kernel
theorem dX12_plan_281 : decode cX12_plan 281 = .ok (.lload 11, 2) := by decide +kernel
theorem dX12_plan_283 : decode cX12_plan 283 = .ok (.lload 6, 2) := by decide +kernel
theorem dX12_plan_285 : decode cX12_plan 285 = .ok (.lcmp, 1) := by decide +kernel
theorem dX12_plan_286 : decode cX12_plan 286 = .ok (.ifCond .le 51, 3) := by decide +kernel
theorem dX12_plan_289 : decode cX12_plan 289 = .ok (.iconst 0, 1) := by decide +kernel
theorem dX12_plan_290 : decode cX12_plan 290 = .ok (.istore 8, 2) := by decide +kernel
theorem dX12_plan_292 : decode cX12_plan 292 = .ok (.lload 11, 2) := by decide +kernel
theorem dX12_plan_294 : decode cX12_plan 294 = .ok (.lstore 6, 2) := by decide +kernel
theorem dX12_plan_296 : decode cX12_plan 296 = .ok (.aload_n 0, 1) := by decide +kernel
theorem dX12_plan_297 : decode cX12_plan 297 = .ok (.iload_n 3, 1) := by decide +kernel
theorem dX12_plan_298 : decode cX12_plan 298 = .ok (.putfield 137, 3) := by decide +kernel
theorem dX12_plan_301 : decode cX12_plan 301 = .ok (.aload_n 0, 1) := by decide +kernel
theorem dX12_plan_302 : decode cX12_plan 302 = .ok (.iload 10, 2) := by decide +kernel
theorem dX12_plan_304 : decode cX12_plan 304 = .ok (.putfield 354, 3) := by decide +kernel
theorem dX12_plan_307 : decode cX12_plan 307 = .ok (.iload_n 3, 1) := by decide +kernel
theorem dX12_plan_308 : decode cX12_plan 308 = .ok (.istore 13, 2) := by decide +kernel
theorem dX12_plan_310 : decode cX12_plan 310 = .ok (.iload 13, 2) := by decide +kernel
theorem dX12_plan_312 : decode cX12_plan 312 = .ok (.bipush 19, 2) := by decide +kernel
theorem dX12_plan_314 : decode cX12_plan 314 = .ok (.if_icmp .gt 23, 3) := by decide +kernel
theorem dX12_plan_317 : decode cX12_plan 317 = .ok (.aload_n 0, 1) := by decide +kernel
theorem dX12_plan_318 : decode cX12_plan 318 = .ok (.getfield 131, 3) := by decide +kernel
theorem dX12_plan_321 : decode cX12_plan 321 = .ok (.iload 13, 2) := by decide +kernel
theorem dX12_plan_323 : decode cX12_plan 323 = .ok (.aload_n 0, 1) := by decide +kernel
theorem dX12_plan_324 : decode cX12_plan 324 = .ok (.getfield 128, 3) := by decide +kernel
theorem dX12_plan_327 : decode cX12_plan 327 = .ok (.iload 13, 2) := by decide +kernel
theorem dX12_plan_329 : decode cX12_plan 329 = .ok (.iaload, 1) := by decide +kernel
theorem dX12_plan_330 : decode cX12_plan 330 = .ok (.iastore, 1) := by decide +kernel
theorem dX12_plan_331 : decode cX12_plan 331 = .ok (.iinc 13 1, 3) := by decide +kernel
theorem dX12_plan_334 : decode cX12_plan 334 = .ok (.goto (-24), 3) := by decide +kernel
theorem dX12_plan_337 : decode cX12_plan 337 = .ok (.bipush 19, 2) := by decide +kernel
theorem dX12_plan_339 : decode cX12_plan 339 = .ok (.istore 9, 2) := by decide +kernel
theorem dX12_plan_341 : decode cX12_plan 341 = .ok (.iload 9, 2) := by decide +kernel
theorem dX12_plan_343 : decode cX12_plan 343 = .ok (.iload_n 3, 1) := by decide +kernel
theorem dX12_plan_344 : decode cX12_plan 344 = .ok (.if_icmp .lt 20, 3) := by decide +kernel
theorem dX12_plan_347 : decode cX12_plan 347 = .ok (.aload_n 0, 1) := by decide +kernel
theorem dX12_plan_348 : decode cX12_plan 348 = .ok (.getfield 128, 3) := by decide +kernel
theorem dX12_plan_351 : decode cX12_plan 351 = .ok (.iload 9, 2) := by decide +kernel
theorem dX12_plan_353 : decode cX12_plan 353 = .ok (.iaload, 1) := by decide +kernel
theorem dX12_plan_354 : decode cX12_plan 354 = .ok (.iconst 3, 1) := by decide +kernel
theorem dX12_plan_355 : decode cX12_plan 355 = .ok (.if_icmp .ne 9, 3) := by decide +kernel
theorem dX12_plan_358 : decode cX12_plan 358 = .ok (.iinc 9 (-1), 3) := by decide +kernel
theorem dX12_plan_361 : decode cX12_plan 361 = .ok (.goto (-20), 3) := by decide +kernel
theorem dX12_plan_364 : decode cX12_plan 364 = .ok (.iload 9, 2) := by decide +kernel
theorem dX12_plan_366 : decode cX12_plan 366 = .ok (.iload_n 3, 1) := by decide +kernel
theorem dX12_plan_367 : decode cX12_plan 367 = .ok (.if_icmp .ge 6, 3) := by decide +kernel
theorem dX12_plan_370 : decode cX12_plan 370 = .ok (.goto (-214), 3) := by decide +kernel
theorem dX12_plan_373 : decode cX12_plan 373 = .ok (.aload_n 0, 1) := by decide +kernel
theorem dX12_plan_374 : decode cX12_plan 374 = .ok (.getfield 128, 3) := by decide +kernel
theorem dX12_plan_377 : decode cX12_plan 377 = .ok (.iload 9, 2) := by decide +kernel
theorem dX12_plan_379 : decode cX12_plan 379 = .ok (.iaload, 1) := by decide +kernel
theorem dX12_plan_380 : decode cX12_plan 380 = .ok (.iconst 1, 1) := by decide +kernel
theorem dX12_plan_381 : decode cX12_plan 381 = .ok (.iadd, 1) := by decide +kernel
theorem dX12_plan_382 : decode cX12_plan 382 = .ok (.istore 13, 2) := by decide +kernel
theorem dX12_plan_384 : decode cX12_plan 384 = .ok (.iload 9, 2) := by decide +kernel
theorem dX12_plan_386 : decode cX12_plan 386 = .ok (.istore 14, 2) := by decide +kernel
theorem dX12_plan_388 : decode cX12_plan 388 = .ok (.iload 14, 2) := by decide +kernel
theorem dX12_plan_390 : decode cX12_plan 390 = .ok (.bipush 19, 2) := by decide +kernel
theorem dX12_plan_392 : decode cX12_plan 392 = .ok (.if_icmp .gt 18, 3) := by decide +kernel
theorem dX12_plan_395 : decode cX12_plan 395 = .ok (.aload_n 0, 1) := by decide +kernel
theorem dX12_plan_396 : decode cX12_plan 396 = .ok (.getfield 128, 3) := by decide +kernel
theorem dX12_plan_399 : decode cX12_plan 399 = .ok (.iload 14, 2) := by decide +kernel
theorem dX12_plan_401 : decode cX12_plan 401 = .ok (.iload 13, 2) := by decide +kernel
theorem dX12_plan_403 : decode cX12_plan 403 = .ok (.iastore, 1) := by decide +kernel
theorem dX12_plan_404 : decode cX12_plan 404 = .ok (.iinc 14 1, 3) := by decide +kernel
theorem dX12_plan_407 : decode cX12_plan 407 = .ok (.goto (-19), 3) := by decide +kernel
theorem dX12_plan_410 : decode cX12_plan 410 = .ok (.goto (-254), 3) := by decide +kernel
theorem dX12_plan_413 : decode cX12_plan 413 = .ok (.lload 6, 2) := by decide +kernel
theorem dX12_plan_415 : decode cX12_plan 415 = .ok (.l2i, 1) := by decide +kernel
theorem dX12_plan_416 : decode cX12_plan 416 = .ok (.ireturn, 1) := by decide +kernel
theorem dX12_planned_0 : decode cX12_planned 0 = .ok (.iload_n 1, 1) := by decide +kernel
theorem dX12_planned_1 : decode cX12_planned 1 = .ok (.aload_n 0, 1) := by decide +kernel
theorem dX12_planned_2 : decode cX12_planned 2 = .ok (.getfield 137, 3) := by decide +kernel
theorem dX12_planned_5 : decode cX12_planned 5 = .ok (.bipush 19, 2) := by decide +kernel
theorem dX12_planned_7 : decode cX12_planned 7 = .ok (.invokestatic 196, 3) := by decide +kernel
theorem dX12_planned_10 : decode cX12_planned 10 = .ok (.ifCond .eq 12, 3) := by decide +kernel
theorem dX12_planned_13 : decode cX12_planned 13 = .ok (.aload_n 0, 1) := by decide +kernel
theorem dX12_planned_14 : decode cX12_planned 14 = .ok (.getfield 131, 3) := by decide +kernel
theorem dX12_planned_17 : decode cX12_planned 17 = .ok (.iload_n 1, 1) := by decide +kernel
theorem dX12_planned_18 : decode cX12_planned 18 = .ok (.iaload, 1) := by decide +kernel
theorem dX12_planned_19 : decode cX12_planned 19 = .ok (.goto 4, 3) := by decide +kernel
theorem dX12_planned_22 : decode cX12_planned 22 = .ok (.iconst (-1), 1) := by decide +kernel
theorem dX12_planned_23 : decode cX12_planned 23 = .ok (.ireturn, 1) := by decide +kernel
theorem dX12_left_0 : decode cX12_left 0 = .ok (.aload_n 0, 1) := by decide +kernel
theorem dX12_left_1 : decode cX12_left 1 = .ok (.getfield 137, 3) := by decide +kernel
theorem dX12_left_4 : decode cX12_left 4 = .ok (.bipush 19, 2) := by decide +kernel
theorem dX12_left_6 : decode cX12_left 6 = .ok (.if_icmp .le 7, 3) := by decide +kernel
theorem dX12_left_9 : decode cX12_left 9 = .ok (.iconst (-1), 1) := by decide +kernel
theorem dX12_left_10 : decode cX12_left 10 = .ok (.goto 7, 3) := by decide +kernel
theorem dX12_left_13 : decode cX12_left 13 = .ok (.aload_n 0, 1) := by decide +kernel
theorem dX12_left_14 : decode cX12_left 14 = .ok (.getfield 354, 3) := by decide +kernel
theorem dX12_left_17 : decode cX12_left 17 = .ok (.ireturn, 1) := by decide +kernel
theorem dX12_isOrder_0 : decode cX12_isOrder 0 = .ok (.aload_n 0, 1) := by decide +kernel
theorem dX12_isOrder_1 : decode cX12_isOrder 1 = .ok (.iload_n 1, 1) := by decide +kernel
theorem dX12_isOrder_2 : decode cX12_isOrder 2 = .ok (.iload_n 2, 1) := by decide +kernel
theorem dX12_isOrder_3 : decode cX12_isOrder 3 = .ok (.invokevirtual 223, 3) := by decide +kernel
theorem dX12_isOrder_6 : decode cX12_isOrder 6 = .ok (.ifCond .eq 33, 3) := by decide +kernel
theorem dX12_isOrder_9 : decode cX12_isOrder 9 = .ok (.iload_n 3, 1) := by decide +kernel
theorem dX12_isOrder_10 : decode cX12_isOrder 10 = .ok (.iconst 0, 1) := by decide +kernel
theorem dX12_isOrder_11 : decode cX12_isOrder 11 = .ok (.bipush 62, 2) := by decide +kernel
theorem dX12_isOrder_13 : decode cX12_isOrder 13 = .ok (.invokestatic 196, 3) := by decide +kernel
theorem dX12_isOrder_16 : decode cX12_isOrder 16 = .ok (.ifCond .eq 23, 3) := by decide +kernel
theorem dX12_isOrder_19 : decode cX12_isOrder 19 = .ok (.iload_n 3, 1) := by decide +kernel
theorem dX12_isOrder_20 : decode cX12_isOrder 20 = .ok (.bipush 10, 2) := by decide +kernel
theorem dX12_isOrder_22 : decode cX12_isOrder 22 = .ok (.irem, 1) := by decide +kernel
theorem dX12_isOrder_23 : decode cX12_isOrder 23 = .ok (.iconst 3, 1) := by decide +kernel
theorem dX12_isOrder_24 : decode cX12_isOrder 24 = .ok (.if_icmp .ge 15, 3) := by decide +kernel
theorem dX12_isOrder_27 : decode cX12_isOrder 27 = .ok (.iload 4, 2) := by decide +kernel
theorem dX12_isOrder_29 : decode cX12_isOrder 29 = .ok (.invokestatic 220, 3) := by decide +kernel
theorem dX12_isOrder_32 : decode cX12_isOrder 32 = .ok (.ifCond .eq 7, 3) := by decide +kernel
theorem dX12_isOrder_35 : decode cX12_isOrder 35 = .ok (.iconst 1, 1) := by decide +kernel
theorem dX12_isOrder_36 : decode cX12_isOrder 36 = .ok (.goto 4, 3) := by decide +kernel
theorem dX12_isOrder_39 : decode cX12_isOrder 39 = .ok (.iconst 0, 1) := by decide +kernel
theorem dX12_isOrder_40 : decode cX12_isOrder 40 = .ok (.ireturn, 1) := by decide +kernel
theorem dX12_findSums_0 : decode cX12_findSums 0 = .ok (.iconst 0, 1) := by decide +kernel
theorem dX12_findSums_1 : decode cX12_findSums 1 = .ok (.istore 5, 2) := by decide +kernel
theorem dX12_findSums_3 : decode cX12_findSums 3 = .ok (.iload 5, 2) := by decide +kernel
theorem dX12_findSums_5 : decode cX12_findSums 5 = .ok (.sipush 1499, 3) := by decide +kernel
theorem dX12_findSums_8 : decode cX12_findSums 8 = .ok (.if_icmp .gt 25, 3) := by decide +kernel
theorem dX12_findSums_11 : decode cX12_findSums 11 = .ok (.aload_n 0, 1) := by decide +kernel
theorem dX12_findSums_12 : decode cX12_findSums 12 = .ok (.getfield 141, 3) := by decide +kernel
theorem dX12_findSums_15 : decode cX12_findSums 15 = .ok (.iload 5, 2) := by decide +kernel
theorem dX12_findSums_17 : decode cX12_findSums 17 = .ok (.iconst 0, 1) := by decide +kernel
theorem dX12_findSums_18 : decode cX12_findSums 18 = .ok (.iastore, 1) := by decide +kernel
theorem dX12_findSums_19 : decode cX12_findSums 19 = .ok (.aload_n 0, 1) := by decide +kernel
theorem dX12_findSums_20 : decode cX12_findSums 20 = .ok (.getfield 144, 3) := by decide +kernel
theorem dX12_findSums_23 : decode cX12_findSums 23 = .ok (.iload 5, 2) := by decide +kernel
theorem dX12_findSums_25 : decode cX12_findSums 25 = .ok (.iconst 0, 1) := by decide +kernel
theorem dX12_findSums_26 : decode cX12_findSums 26 = .ok (.bastore, 1) := by decide +kernel
theorem dX12_findSums_27 : decode cX12_findSums 27 = .ok (.iinc 5 1, 3) := by decide +kernel
theorem dX12_findSums_30 : decode cX12_findSums 30 = .ok (.goto (-27), 3) := by decide +kernel
theorem dX12_findSums_33 : decode cX12_findSums 33 = .ok (.iconst 0, 1) := by decide +kernel
theorem dX12_findSums_34 : decode cX12_findSums 34 = .ok (.istore 5, 2) := by decide +kernel
theorem dX12_findSums_36 : decode cX12_findSums 36 = .ok (.iload 5, 2) := by decide +kernel
theorem dX12_findSums_38 : decode cX12_findSums 38 = .ok (.aload_n 0, 1) := by decide +kernel
theorem dX12_findSums_39 : decode cX12_findSums 39 = .ok (.getfield 337, 3) := by decide +kernel
theorem dX12_findSums_42 : decode cX12_findSums 42 = .ok (.if_icmp .ge 104, 3) := by decide +kernel
theorem dX12_findSums_45 : decode cX12_findSums 45 = .ok (.aload_n 0, 1) := by decide +kernel
theorem dX12_findSums_46 : decode cX12_findSums 46 = .ok (.getfield 113, 3) := by decide +kernel
theorem dX12_findSums_49 : decode cX12_findSums 49 = .ok (.iload 5, 2) := by decide +kernel
theorem dX12_findSums_51 : decode cX12_findSums 51 = .ok (.iaload, 1) := by decide +kernel
theorem dX12_findSums_52 : decode cX12_findSums 52 = .ok (.bipush 24, 2) := by decide +kernel
theorem dX12_findSums_54 : decode cX12_findSums 54 = .ok (.idiv, 1) := by decide +kernel
theorem dX12_findSums_55 : decode cX12_findSums 55 = .ok (.istore 6, 2) := by decide +kernel
theorem dX12_findSums_57 : decode cX12_findSums 57 = .ok (.aload_n 0, 1) := by decide +kernel
theorem dX12_findSums_58 : decode cX12_findSums 58 = .ok (.getfield 107, 3) := by decide +kernel
theorem dX12_findSums_61 : decode cX12_findSums 61 = .ok (.iload 5, 2) := by decide +kernel
theorem dX12_findSums_63 : decode cX12_findSums 63 = .ok (.iaload, 1) := by decide +kernel
theorem dX12_findSums_64 : decode cX12_findSums 64 = .ok (.iload_n 1, 1) := by decide +kernel
theorem dX12_findSums_65 : decode cX12_findSums 65 = .ok (.if_icmp .ne 75, 3) := by decide +kernel
theorem dX12_findSums_68 : decode cX12_findSums 68 = .ok (.aload_n 0, 1) := by decide +kernel
theorem dX12_findSums_69 : decode cX12_findSums 69 = .ok (.getfield 110, 3) := by decide +kernel
theorem dX12_findSums_72 : decode cX12_findSums 72 = .ok (.iload 5, 2) := by decide +kernel
theorem dX12_findSums_74 : decode cX12_findSums 74 = .ok (.iaload, 1) := by decide +kernel
theorem dX12_findSums_75 : decode cX12_findSums 75 = .ok (.iload_n 2, 1) := by decide +kernel
theorem dX12_findSums_76 : decode cX12_findSums 76 = .ok (.if_icmp .ne 64, 3) := by decide +kernel
theorem dX12_findSums_79 : decode cX12_findSums 79 = .ok (.aload_n 0, 1) := by decide +kernel
theorem dX12_findSums_80 : decode cX12_findSums 80 = .ok (.getfield 119, 3) := by decide +kernel
theorem dX12_findSums_83 : decode cX12_findSums 83 = .ok (.iload 5, 2) := by decide +kernel
theorem dX12_findSums_85 : decode cX12_findSums 85 = .ok (.iaload, 1) := by decide +kernel
theorem dX12_findSums_86 : decode cX12_findSums 86 = .ok (.iload_n 3, 1) := by decide +kernel
theorem dX12_findSums_87 : decode cX12_findSums 87 = .ok (.bipush 10, 2) := by decide +kernel
theorem dX12_findSums_89 : decode cX12_findSums 89 = .ok (.irem, 1) := by decide +kernel
theorem dX12_findSums_90 : decode cX12_findSums 90 = .ok (.if_icmp .ne 50, 3) := by decide +kernel
theorem dX12_findSums_93 : decode cX12_findSums 93 = .ok (.iload 6, 2) := by decide +kernel
theorem dX12_findSums_95 : decode cX12_findSums 95 = .ok (.iload 4, 2) := by decide +kernel
theorem dX12_findSums_97 : decode cX12_findSums 97 = .ok (.if_icmp .gt 43, 3) := by decide +kernel
theorem dX12_findSums_100 : decode cX12_findSums 100 = .ok (.iload 6, 2) := by decide +kernel
theorem dX12_findSums_102 : decode cX12_findSums 102 = .ok (.bipush 7, 2) := by decide +kernel
theorem dX12_findSums_104 : decode cX12_findSums 104 = .ok (.irem, 1) := by decide +kernel
theorem dX12_findSums_105 : decode cX12_findSums 105 = .ok (.iload_n 3, 1) := by decide +kernel
theorem dX12_findSums_106 : decode cX12_findSums 106 = .ok (.bipush 10, 2) := by decide +kernel
theorem dX12_findSums_108 : decode cX12_findSums 108 = .ok (.idiv, 1) := by decide +kernel
theorem dX12_findSums_109 : decode cX12_findSums 109 = .ok (.if_icmp .eq 6, 3) := by decide +kernel
theorem dX12_findSums_112 : decode cX12_findSums 112 = .ok (.goto 28, 3) := by decide +kernel
theorem dX12_findSums_115 : decode cX12_findSums 115 = .ok (.aload_n 0, 1) := by decide +kernel
theorem dX12_findSums_116 : decode cX12_findSums 116 = .ok (.getfield 141, 3) := by decide +kernel
theorem dX12_findSums_119 : decode cX12_findSums 119 = .ok (.iload 6, 2) := by decide +kernel
theorem dX12_findSums_121 : decode cX12_findSums 121 = .ok (.dup2, 1) := by decide +kernel
theorem dX12_findSums_122 : decode cX12_findSums 122 = .ok (.iaload, 1) := by decide +kernel
theorem dX12_findSums_123 : decode cX12_findSums 123 = .ok (.aload_n 0, 1) := by decide +kernel
theorem dX12_findSums_124 : decode cX12_findSums 124 = .ok (.getfield 122, 3) := by decide +kernel
theorem dX12_findSums_127 : decode cX12_findSums 127 = .ok (.iload 5, 2) := by decide +kernel
theorem dX12_findSums_129 : decode cX12_findSums 129 = .ok (.iaload, 1) := by decide +kernel
theorem dX12_findSums_130 : decode cX12_findSums 130 = .ok (.iadd, 1) := by decide +kernel
theorem dX12_findSums_131 : decode cX12_findSums 131 = .ok (.iastore, 1) := by decide +kernel
theorem dX12_findSums_132 : decode cX12_findSums 132 = .ok (.aload_n 0, 1) := by decide +kernel
theorem dX12_findSums_133 : decode cX12_findSums 133 = .ok (.getfield 144, 3) := by decide +kernel
theorem dX12_findSums_136 : decode cX12_findSums 136 = .ok (.iload 6, 2) := by decide +kernel
theorem dX12_findSums_138 : decode cX12_findSums 138 = .ok (.iconst 1, 1) := by decide +kernel
theorem dX12_findSums_139 : decode cX12_findSums 139 = .ok (.bastore, 1) := by decide +kernel
theorem dX12_findSums_140 : decode cX12_findSums 140 = .ok (.iinc 5 1, 3) := by decide +kernel
theorem dX12_findSums_143 : decode cX12_findSums 143 = .ok (.goto (-107), 3) := by decide +kernel
theorem dX12_findSums_146 : decode cX12_findSums 146 = .ok (.return_, 1) := by decide +kernel
theorem dX12_lossOf_0 : decode cX12_lossOf 0 = .ok (.aload_n 0, 1) := by decide +kernel
theorem dX12_lossOf_1 : decode cX12_lossOf 1 = .ok (.getfield 19, 3) := by decide +kernel
theorem dX12_lossOf_4 : decode cX12_lossOf 4 = .ok (.iload_n 1, 1) := by decide +kernel
theorem dX12_lossOf_5 : decode cX12_lossOf 5 = .ok (.iaload, 1) := by decide +kernel
theorem dX12_lossOf_6 : decode cX12_lossOf 6 = .ok (.aload_n 0, 1) := by decide +kernel
theorem dX12_lossOf_7 : decode cX12_lossOf 7 = .ok (.getfield 22, 3) := by decide +kernel
theorem dX12_lossOf_10 : decode cX12_lossOf 10 = .ok (.iload_n 1, 1) := by decide +kernel
theorem dX12_lossOf_11 : decode cX12_lossOf 11 = .ok (.iaload, 1) := by decide +kernel
theorem dX12_lossOf_12 : decode cX12_lossOf 12 = .ok (.isub, 1) := by decide +kernel
theorem dX12_lossOf_13 : decode cX12_lossOf 13 = .ok (.ifCond .ge 7, 3) := by decide +kernel
theorem dX12_lossOf_16 : decode cX12_lossOf 16 = .ok (.lconst 0, 1) := by decide +kernel
theorem dX12_lossOf_17 : decode cX12_lossOf 17 = .ok (.goto 17, 3) := by decide +kernel
theorem dX12_lossOf_20 : decode cX12_lossOf 20 = .ok (.aload_n 0, 1) := by decide +kernel
theorem dX12_lossOf_21 : decode cX12_lossOf 21 = .ok (.getfield 19, 3) := by decide +kernel
theorem dX12_lossOf_24 : decode cX12_lossOf 24 = .ok (.iload_n 1, 1) := by decide +kernel
theorem dX12_lossOf_25 : decode cX12_lossOf 25 = .ok (.iaload, 1) := by decide +kernel
theorem dX12_lossOf_26 : decode cX12_lossOf 26 = .ok (.aload_n 0, 1) := by decide +kernel
theorem dX12_lossOf_27 : decode cX12_lossOf 27 = .ok (.getfield 22, 3) := by decide +kernel
theorem dX12_lossOf_30 : decode cX12_lossOf 30 = .ok (.iload_n 1, 1) := by decide +kernel
theorem dX12_lossOf_31 : decode cX12_lossOf 31 = .ok (.iaload, 1) := by decide +kernel
theorem dX12_lossOf_32 : decode cX12_lossOf 32 = .ok (.isub, 1) := by decide +kernel
theorem dX12_lossOf_33 : decode cX12_lossOf 33 = .ok (.i2l, 1) := by decide +kernel
theorem dX12_lossOf_34 : decode cX12_lossOf 34 = .ok (.lstore_n 3, 1) := by decide +kernel
theorem dX12_lossOf_35 : decode cX12_lossOf 35 = .ok (.lconst 0, 1) := by decide +kernel
theorem dX12_lossOf_36 : decode cX12_lossOf 36 = .ok (.lstore 5, 2) := by decide +kernel
theorem dX12_lossOf_38 : decode cX12_lossOf 38 = .ok (.iconst 0, 1) := by decide +kernel
theorem dX12_lossOf_39 : decode cX12_lossOf 39 = .ok (.istore 7, 2) := by decide +kernel
theorem dX12_lossOf_41 : decode cX12_lossOf 41 = .ok (.iload 7, 2) := by decide +kernel
theorem dX12_lossOf_43 : decode cX12_lossOf 43 = .ok (.aload_n 0, 1) := by decide +kernel
theorem dX12_lossOf_44 : decode cX12_lossOf 44 = .ok (.invokevirtual 230, 3) := by decide +kernel
theorem dX12_lossOf_47 : decode cX12_lossOf 47 = .ok (.if_icmp .gt 75, 3) := by decide +kernel
theorem dX12_lossOf_50 : decode cX12_lossOf 50 = .ok (.aload_n 0, 1) := by decide +kernel
theorem dX12_lossOf_51 : decode cX12_lossOf 51 = .ok (.getfield 144, 3) := by decide +kernel
theorem dX12_lossOf_54 : decode cX12_lossOf 54 = .ok (.iload 7, 2) := by decide +kernel
theorem dX12_lossOf_56 : decode cX12_lossOf 56 = .ok (.baload, 1) := by decide +kernel
theorem dX12_lossOf_57 : decode cX12_lossOf 57 = .ok (.ifCond .eq 59, 3) := by decide +kernel
theorem dX12_lossOf_60 : decode cX12_lossOf 60 = .ok (.lload 5, 2) := by decide +kernel
theorem dX12_lossOf_62 : decode cX12_lossOf 62 = .ok (.aload_n 0, 1) := by decide +kernel
theorem dX12_lossOf_63 : decode cX12_lossOf 63 = .ok (.getfield 141, 3) := by decide +kernel
theorem dX12_lossOf_66 : decode cX12_lossOf 66 = .ok (.iload 7, 2) := by decide +kernel
theorem dX12_lossOf_68 : decode cX12_lossOf 68 = .ok (.iaload, 1) := by decide +kernel
theorem dX12_lossOf_69 : decode cX12_lossOf 69 = .ok (.iload_n 2, 1) := by decide +kernel
theorem dX12_lossOf_70 : decode cX12_lossOf 70 = .ok (.if_icmp .le 18, 3) := by decide +kernel
theorem dX12_lossOf_73 : decode cX12_lossOf 73 = .ok (.lload_n 3, 1) := by decide +kernel
theorem dX12_lossOf_74 : decode cX12_lossOf 74 = .ok (.aload_n 0, 1) := by decide +kernel
theorem dX12_lossOf_75 : decode cX12_lossOf 75 = .ok (.getfield 141, 3) := by decide +kernel
theorem dX12_lossOf_78 : decode cX12_lossOf 78 = .ok (.iload 7, 2) := by decide +kernel
theorem dX12_lossOf_80 : decode cX12_lossOf 80 = .ok (.iaload, 1) := by decide +kernel
theorem dX12_lossOf_81 : decode cX12_lossOf 81 = .ok (.iload_n 2, 1) := by decide +kernel
theorem dX12_lossOf_82 : decode cX12_lossOf 82 = .ok (.isub, 1) := by decide +kernel
theorem dX12_lossOf_83 : decode cX12_lossOf 83 = .ok (.i2l, 1) := by decide +kernel
theorem dX12_lossOf_84 : decode cX12_lossOf 84 = .ok (.lmul, 1) := by decide +kernel
theorem dX12_lossOf_85 : decode cX12_lossOf 85 = .ok (.goto 28, 3) := by decide +kernel
theorem dX12_lossOf_88 : decode cX12_lossOf 88 = .ok (.aload_n 0, 1) := by decide +kernel
theorem dX12_lossOf_89 : decode cX12_lossOf 89 = .ok (.getfield 22, 3) := by decide +kernel
theorem dX12_lossOf_92 : decode cX12_lossOf 92 = .ok (.iload_n 1, 1) := by decide +kernel
theorem dX12_lossOf_93 : decode cX12_lossOf 93 = .ok (.iaload, 1) := by decide +kernel
theorem dX12_lossOf_94 : decode cX12_lossOf 94 = .ok (.aload_n 0, 1) := by decide +kernel
theorem dX12_lossOf_95 : decode cX12_lossOf 95 = .ok (.getfield 31, 3) := by decide +kernel
theorem dX12_lossOf_98 : decode cX12_lossOf 98 = .ok (.iload_n 1, 1) := by decide +kernel
theorem dX12_lossOf_99 : decode cX12_lossOf 99 = .ok (.iaload, 1) := by decide +kernel
theorem dX12_lossOf_100 : decode cX12_lossOf 100 = .ok (.iadd, 1) := by decide +kernel
theorem dX12_lossOf_101 : decode cX12_lossOf 101 = .ok (.i2l, 1) := by decide +kernel
theorem dX12_lossOf_102 : decode cX12_lossOf 102 = .ok (.iload_n 2, 1) := by decide +kernel
theorem dX12_lossOf_103 : decode cX12_lossOf 103 = .ok (.aload_n 0, 1) := by decide +kernel
theorem dX12_lossOf_104 : decode cX12_lossOf 104 = .ok (.getfield 141, 3) := by decide +kernel
theorem dX12_lossOf_107 : decode cX12_lossOf 107 = .ok (.iload 7, 2) := by decide +kernel
theorem dX12_lossOf_109 : decode cX12_lossOf 109 = .ok (.iaload, 1) := by decide +kernel
theorem dX12_lossOf_110 : decode cX12_lossOf 110 = .ok (.isub, 1) := by decide +kernel
theorem dX12_lossOf_111 : decode cX12_lossOf 111 = .ok (.i2l, 1) := by decide +kernel
theorem dX12_lossOf_112 : decode cX12_lossOf 112 = .ok (.lmul, 1) := by decide +kernel
theorem dX12_lossOf_113 : decode cX12_lossOf 113 = .ok (.ladd, 1) := by decide +kernel
theorem dX12_lossOf_114 : decode cX12_lossOf 114 = .ok (.lstore 5, 2) := by decide +kernel
theorem dX12_lossOf_116 : decode cX12_lossOf 116 = .ok (.iinc 7 1, 3) := by decide +kernel
theorem dX12_lossOf_119 : decode cX12_lossOf 119 = .ok (.goto (-78), 3) := by decide +kernel
theorem dX12_lossOf_122 : decode cX12_lossOf 122 = .ok (.lload 5, 2) := by decide +kernel
theorem dX12_lossOf_124 : decode cX12_lossOf 124 = .ok (.lreturn, 1) := by decide +kernel
theorem dX12_order_0 : decode cX12_order 0 = .ok (.aload_n 0, 1) := by decide +kernel
theorem dX12_order_1 : decode cX12_order 1 = .ok (.iload_n 1, 1) := by decide +kernel
theorem dX12_order_2 : decode cX12_order 2 = .ok (.iload_n 2, 1) := by decide +kernel
theorem dX12_order_3 : decode cX12_order 3 = .ok (.iload_n 3, 1) := by decide +kernel
theorem dX12_order_4 : decode cX12_order 4 = .ok (.iload 4, 2) := by decide +kernel
theorem dX12_order_6 : decode cX12_order 6 = .ok (.invokevirtual 357, 3) := by decide +kernel
theorem dX12_order_9 : decode cX12_order 9 = .ok (.ifCond .ne 5, 3) := by decide +kernel
theorem dX12_order_12 : decode cX12_order 12 = .ok (.iconst (-1), 1) := by decide +kernel
theorem dX12_order_13 : decode cX12_order 13 = .ok (.ireturn, 1) := by decide +kernel
theorem dX12_order_14 : decode cX12_order 14 = .ok (.aload_n 0, 1) := by decide +kernel
theorem dX12_order_15 : decode cX12_order 15 = .ok (.iload_n 1, 1) := by decide +kernel
theorem dX12_order_16 : decode cX12_order 16 = .ok (.iload_n 2, 1) := by decide +kernel
theorem dX12_order_17 : decode cX12_order 17 = .ok (.iload_n 3, 1) := by decide +kernel
theorem dX12_order_18 : decode cX12_order 18 = .ok (.iload 4, 2) := by decide +kernel
theorem dX12_order_20 : decode cX12_order 20 = .ok (.invokevirtual 361, 3) := by decide +kernel
theorem dX12_order_23 : decode cX12_order 23 = .ok (.iconst 0, 1) := by decide +kernel
theorem dX12_order_24 : decode cX12_order 24 = .ok (.istore 5, 2) := by decide +kernel
theorem dX12_order_26 : decode cX12_order 26 = .ok (.aload_n 0, 1) := by decide +kernel
theorem dX12_order_27 : decode cX12_order 27 = .ok (.iload_n 2, 1) := by decide +kernel
theorem dX12_order_28 : decode cX12_order 28 = .ok (.iconst 0, 1) := by decide +kernel
theorem dX12_order_29 : decode cX12_order 29 = .ok (.invokevirtual 365, 3) := by decide +kernel
theorem dX12_order_32 : decode cX12_order 32 = .ok (.lstore 6, 2) := by decide +kernel
theorem dX12_order_34 : decode cX12_order 34 = .ok (.iconst 1, 1) := by decide +kernel
theorem dX12_order_35 : decode cX12_order 35 = .ok (.istore 8, 2) := by decide +kernel
theorem dX12_order_37 : decode cX12_order 37 = .ok (.iload 8, 2) := by decide +kernel
theorem dX12_order_39 : decode cX12_order 39 = .ok (.sipush 1000, 3) := by decide +kernel
theorem dX12_order_42 : decode cX12_order 42 = .ok (.if_icmp .ge 37, 3) := by decide +kernel
theorem dX12_order_45 : decode cX12_order 45 = .ok (.aload_n 0, 1) := by decide +kernel
theorem dX12_order_46 : decode cX12_order 46 = .ok (.iload_n 2, 1) := by decide +kernel
theorem dX12_order_47 : decode cX12_order 47 = .ok (.iload 8, 2) := by decide +kernel
theorem dX12_order_49 : decode cX12_order 49 = .ok (.invokevirtual 365, 3) := by decide +kernel
theorem dX12_order_52 : decode cX12_order 52 = .ok (.lstore 9, 2) := by decide +kernel
theorem dX12_order_54 : decode cX12_order 54 = .ok (.lload 9, 2) := by decide +kernel
theorem dX12_order_56 : decode cX12_order 56 = .ok (.lload 6, 2) := by decide +kernel
theorem dX12_order_58 : decode cX12_order 58 = .ok (.lcmp, 1) := by decide +kernel
theorem dX12_order_59 : decode cX12_order 59 = .ok (.ifCond .lt 6, 3) := by decide +kernel
theorem dX12_order_62 : decode cX12_order 62 = .ok (.goto 11, 3) := by decide +kernel
theorem dX12_order_65 : decode cX12_order 65 = .ok (.lload 9, 2) := by decide +kernel
theorem dX12_order_67 : decode cX12_order 67 = .ok (.lstore 6, 2) := by decide +kernel
theorem dX12_order_69 : decode cX12_order 69 = .ok (.iload 8, 2) := by decide +kernel
theorem dX12_order_71 : decode cX12_order 71 = .ok (.istore 5, 2) := by decide +kernel
theorem dX12_order_73 : decode cX12_order 73 = .ok (.iinc 8 1, 3) := by decide +kernel
theorem dX12_order_76 : decode cX12_order 76 = .ok (.goto (-39), 3) := by decide +kernel
theorem dX12_order_79 : decode cX12_order 79 = .ok (.iload 5, 2) := by decide +kernel
theorem dX12_order_81 : decode cX12_order 81 = .ok (.ireturn, 1) := by decide +kernel
theorem dX12_loss_0 : decode cX12_loss 0 = .ok (.aload_n 0, 1) := by decide +kernel
theorem dX12_loss_1 : decode cX12_loss 1 = .ok (.iload_n 1, 1) := by decide +kernel
theorem dX12_loss_2 : decode cX12_loss 2 = .ok (.iload_n 2, 1) := by decide +kernel
theorem dX12_loss_3 : decode cX12_loss 3 = .ok (.iload_n 3, 1) := by decide +kernel
theorem dX12_loss_4 : decode cX12_loss 4 = .ok (.iload 4, 2) := by decide +kernel
theorem dX12_loss_6 : decode cX12_loss 6 = .ok (.invokevirtual 357, 3) := by decide +kernel
theorem dX12_loss_9 : decode cX12_loss 9 = .ok (.ifCond .eq 15, 3) := by decide +kernel
theorem dX12_loss_12 : decode cX12_loss 12 = .ok (.iload 5, 2) := by decide +kernel
theorem dX12_loss_14 : decode cX12_loss 14 = .ok (.iconst 0, 1) := by decide +kernel
theorem dX12_loss_15 : decode cX12_loss 15 = .ok (.sipush 999, 3) := by decide +kernel
theorem dX12_loss_18 : decode cX12_loss 18 = .ok (.invokestatic 196, 3) := by decide +kernel
theorem dX12_loss_21 : decode cX12_loss 21 = .ok (.ifCond .ne 7, 3) := by decide +kernel
theorem dX12_loss_24 : decode cX12_loss 24 = .ok (.ldc2_w 369, 3) := by decide +kernel
theorem dX12_loss_27 : decode cX12_loss 27 = .ok (.lreturn, 1) := by decide +kernel
theorem dX12_loss_28 : decode cX12_loss 28 = .ok (.aload_n 0, 1) := by decide +kernel
theorem dX12_loss_29 : decode cX12_loss 29 = .ok (.iload_n 1, 1) := by decide +kernel
theorem dX12_loss_30 : decode cX12_loss 30 = .ok (.iload_n 2, 1) := by decide +kernel
theorem dX12_loss_31 : decode cX12_loss 31 = .ok (.iload_n 3, 1) := by decide +kernel
theorem dX12_loss_32 : decode cX12_loss 32 = .ok (.iload 4, 2) := by decide +kernel
theorem dX12_loss_34 : decode cX12_loss 34 = .ok (.invokevirtual 361, 3) := by decide +kernel
theorem dX12_loss_37 : decode cX12_loss 37 = .ok (.aload_n 0, 1) := by decide +kernel
theorem dX12_loss_38 : decode cX12_loss 38 = .ok (.iload_n 2, 1) := by decide +kernel
theorem dX12_loss_39 : decode cX12_loss 39 = .ok (.iload 5, 2) := by decide +kernel
theorem dX12_loss_41 : decode cX12_loss 41 = .ok (.invokevirtual 365, 3) := by decide +kernel
theorem dX12_loss_44 : decode cX12_loss 44 = .ok (.lreturn, 1) := by decide +kernel
theorem dX12_crates_0 : decode cX12_crates 0 = .ok (.aload_n 0, 1) := by decide +kernel
theorem dX12_crates_1 : decode cX12_crates 1 = .ok (.iload_n 1, 1) := by decide +kernel
theorem dX12_crates_2 : decode cX12_crates 2 = .ok (.invokevirtual 209, 3) := by decide +kernel
theorem dX12_crates_5 : decode cX12_crates 5 = .ok (.ifCond .eq 21, 3) := by decide +kernel
theorem dX12_crates_8 : decode cX12_crates 8 = .ok (.iload_n 2, 1) := by decide +kernel
theorem dX12_crates_9 : decode cX12_crates 9 = .ok (.iconst 0, 1) := by decide +kernel
theorem dX12_crates_10 : decode cX12_crates 10 = .ok (.iconst 1, 1) := by decide +kernel
theorem dX12_crates_11 : decode cX12_crates 11 = .ok (.invokestatic 196, 3) := by decide +kernel
theorem dX12_crates_14 : decode cX12_crates 14 = .ok (.ifCond .eq 12, 3) := by decide +kernel
theorem dX12_crates_17 : decode cX12_crates 17 = .ok (.iload_n 3, 1) := by decide +kernel
theorem dX12_crates_18 : decode cX12_crates 18 = .ok (.iconst 0, 1) := by decide +kernel
theorem dX12_crates_19 : decode cX12_crates 19 = .ok (.iconst 3, 1) := by decide +kernel
theorem dX12_crates_20 : decode cX12_crates 20 = .ok (.invokestatic 196, 3) := by decide +kernel
theorem dX12_crates_23 : decode cX12_crates 23 = .ok (.ifCond .ne 5, 3) := by decide +kernel
theorem dX12_crates_26 : decode cX12_crates 26 = .ok (.iconst (-1), 1) := by decide +kernel
theorem dX12_crates_27 : decode cX12_crates 27 = .ok (.ireturn, 1) := by decide +kernel
theorem dX12_crates_28 : decode cX12_crates 28 = .ok (.iload_n 2, 1) := by decide +kernel
theorem dX12_crates_29 : decode cX12_crates 29 = .ok (.ifCond .ne 12, 3) := by decide +kernel
theorem dX12_crates_32 : decode cX12_crates 32 = .ok (.aload_n 0, 1) := by decide +kernel
theorem dX12_crates_33 : decode cX12_crates 33 = .ok (.getfield 148, 3) := by decide +kernel
theorem dX12_crates_36 : decode cX12_crates 36 = .ok (.iload_n 1, 1) := by decide +kernel
theorem dX12_crates_37 : decode cX12_crates 37 = .ok (.iaload, 1) := by decide +kernel
theorem dX12_crates_38 : decode cX12_crates 38 = .ok (.goto 9, 3) := by decide +kernel
theorem dX12_crates_41 : decode cX12_crates 41 = .ok (.aload_n 0, 1) := by decide +kernel
theorem dX12_crates_42 : decode cX12_crates 42 = .ok (.getfield 151, 3) := by decide +kernel
theorem dX12_crates_45 : decode cX12_crates 45 = .ok (.iload_n 1, 1) := by decide +kernel
theorem dX12_crates_46 : decode cX12_crates 46 = .ok (.iaload, 1) := by decide +kernel
theorem dX12_crates_47 : decode cX12_crates 47 = .ok (.istore 4, 2) := by decide +kernel
theorem dX12_crates_49 : decode cX12_crates 49 = .ok (.iload_n 2, 1) := by decide +kernel
theorem dX12_crates_50 : decode cX12_crates 50 = .ok (.ifCond .ne 13, 3) := by decide +kernel
theorem dX12_crates_53 : decode cX12_crates 53 = .ok (.aload_n 0, 1) := by decide +kernel
theorem dX12_crates_54 : decode cX12_crates 54 = .ok (.getfield 148, 3) := by decide +kernel
theorem dX12_crates_57 : decode cX12_crates 57 = .ok (.iload_n 1, 1) := by decide +kernel
theorem dX12_crates_58 : decode cX12_crates 58 = .ok (.iload_n 3, 1) := by decide +kernel
theorem dX12_crates_59 : decode cX12_crates 59 = .ok (.iastore, 1) := by decide +kernel
theorem dX12_crates_60 : decode cX12_crates 60 = .ok (.goto 10, 3) := by decide +kernel
theorem dX12_crates_63 : decode cX12_crates 63 = .ok (.aload_n 0, 1) := by decide +kernel
theorem dX12_crates_64 : decode cX12_crates 64 = .ok (.getfield 151, 3) := by decide +kernel
theorem dX12_crates_67 : decode cX12_crates 67 = .ok (.iload_n 1, 1) := by decide +kernel
theorem dX12_crates_68 : decode cX12_crates 68 = .ok (.iload_n 3, 1) := by decide +kernel
theorem dX12_crates_69 : decode cX12_crates 69 = .ok (.iastore, 1) := by decide +kernel
theorem dX12_crates_70 : decode cX12_crates 70 = .ok (.iload 4, 2) := by decide +kernel
theorem dX12_crates_72 : decode cX12_crates 72 = .ok (.ireturn, 1) := by decide +kernel
theorem dX12_off_0 : decode cX12_off 0 = .ok (.iload_n 0, 1) := by decide +kernel
theorem dX12_off_1 : decode cX12_off 1 = .ok (.iload_n 1, 1) := by decide +kernel
theorem dX12_off_2 : decode cX12_off 2 = .ok (.if_icmp .ge 9, 3) := by decide +kernel
theorem dX12_off_5 : decode cX12_off 5 = .ok (.iload_n 1, 1) := by decide +kernel
theorem dX12_off_6 : decode cX12_off 6 = .ok (.iload_n 0, 1) := by decide +kernel
theorem dX12_off_7 : decode cX12_off 7 = .ok (.isub, 1) := by decide +kernel
theorem dX12_off_8 : decode cX12_off 8 = .ok (.goto 6, 3) := by decide +kernel
theorem dX12_off_11 : decode cX12_off 11 = .ok (.iload_n 0, 1) := by decide +kernel
theorem dX12_off_12 : decode cX12_off 12 = .ok (.iload_n 1, 1) := by decide +kernel
theorem dX12_off_13 : decode cX12_off 13 = .ok (.isub, 1) := by decide +kernel
theorem dX12_off_14 : decode cX12_off 14 = .ok (.ireturn, 1) := by decide +kernel
theorem dX12_miles_0 : decode cX12_miles 0 = .ok (.aload_n 0, 1) := by decide +kernel
theorem dX12_miles_1 : decode cX12_miles 1 = .ok (.getfield 7, 3) := by decide +kernel
theorem dX12_miles_4 : decode cX12_miles 4 = .ok (.iload_n 1, 1) := by decide +kernel
theorem dX12_miles_5 : decode cX12_miles 5 = .ok (.iaload, 1) := by decide +kernel
theorem dX12_miles_6 : decode cX12_miles 6 = .ok (.aload_n 0, 1) := by decide +kernel
theorem dX12_miles_7 : decode cX12_miles 7 = .ok (.getfield 7, 3) := by decide +kernel
theorem dX12_miles_10 : decode cX12_miles 10 = .ok (.iload_n 2, 1) := by decide +kernel
theorem dX12_miles_11 : decode cX12_miles 11 = .ok (.iaload, 1) := by decide +kernel
theorem dX12_miles_12 : decode cX12_miles 12 = .ok (.invokestatic 371, 3) := by decide +kernel
theorem dX12_miles_15 : decode cX12_miles 15 = .ok (.aload_n 0, 1) := by decide +kernel
theorem dX12_miles_16 : decode cX12_miles 16 = .ok (.getfield 13, 3) := by decide +kernel
theorem dX12_miles_19 : decode cX12_miles 19 = .ok (.iload_n 1, 1) := by decide +kernel
theorem dX12_miles_20 : decode cX12_miles 20 = .ok (.iaload, 1) := by decide +kernel
theorem dX12_miles_21 : decode cX12_miles 21 = .ok (.aload_n 0, 1) := by decide +kernel
theorem dX12_miles_22 : decode cX12_miles 22 = .ok (.getfield 13, 3) := by decide +kernel
theorem dX12_miles_25 : decode cX12_miles 25 = .ok (.iload_n 2, 1) := by decide +kernel
theorem dX12_miles_26 : decode cX12_miles 26 = .ok (.iaload, 1) := by decide +kernel
theorem dX12_miles_27 : decode cX12_miles 27 = .ok (.invokestatic 371, 3) := by decide +kernel
theorem dX12_miles_30 : decode cX12_miles 30 = .ok (.iadd, 1) := by decide +kernel
theorem dX12_miles_31 : decode cX12_miles 31 = .ok (.ireturn, 1) := by decide +kernel
theorem dX12_mayCome_0 : decode cX12_mayCome 0 = .ok (.aload_n 0, 1) := by decide +kernel
theorem dX12_mayCome_1 : decode cX12_mayCome 1 = .ok (.getfield 157, 3) := by decide +kernel
theorem dX12_mayCome_4 : decode cX12_mayCome 4 = .ok (.iload_n 1, 1) := by decide +kernel
theorem dX12_mayCome_5 : decode cX12_mayCome 5 = .ok (.iaload, 1) := by decide +kernel
theorem dX12_mayCome_6 : decode cX12_mayCome 6 = .ok (.istore_n 2, 1) := by decide +kernel
theorem dX12_mayCome_7 : decode cX12_mayCome 7 = .ok (.iload_n 2, 1) := by decide +kernel
theorem dX12_mayCome_8 : decode cX12_mayCome 8 = .ok (.aload_n 0, 1) := by decide +kernel
theorem dX12_mayCome_9 : decode cX12_mayCome 9 = .ok (.getfield 203, 3) := by decide +kernel
theorem dX12_mayCome_12 : decode cX12_mayCome 12 = .ok (.if_icmp .ne 5, 3) := by decide +kernel
theorem dX12_mayCome_15 : decode cX12_mayCome 15 = .ok (.iconst 1, 1) := by decide +kernel
theorem dX12_mayCome_16 : decode cX12_mayCome 16 = .ok (.ireturn, 1) := by decide +kernel
theorem dX12_mayCome_17 : decode cX12_mayCome 17 = .ok (.iload_n 2, 1) := by decide +kernel
theorem dX12_mayCome_18 : decode cX12_mayCome 18 = .ok (.aload_n 0, 1) := by decide +kernel
theorem dX12_mayCome_19 : decode cX12_mayCome 19 = .ok (.getfield 154, 3) := by decide +kernel
theorem dX12_mayCome_22 : decode cX12_mayCome 22 = .ok (.iload_n 1, 1) := by decide +kernel
theorem dX12_mayCome_23 : decode cX12_mayCome 23 = .ok (.iaload, 1) := by decide +kernel
theorem dX12_mayCome_24 : decode cX12_mayCome 24 = .ok (.if_icmp .ne 5, 3) := by decide +kernel
theorem dX12_mayCome_27 : decode cX12_mayCome 27 = .ok (.iconst 0, 1) := by decide +kernel
theorem dX12_mayCome_28 : decode cX12_mayCome 28 = .ok (.ireturn, 1) := by decide +kernel
theorem dX12_mayCome_29 : decode cX12_mayCome 29 = .ok (.iconst 0, 1) := by decide +kernel
theorem dX12_mayCome_30 : decode cX12_mayCome 30 = .ok (.istore_n 3, 1) := by decide +kernel
theorem dX12_mayCome_31 : decode cX12_mayCome 31 = .ok (.iconst 0, 1) := by decide +kernel
theorem dX12_mayCome_32 : decode cX12_mayCome 32 = .ok (.istore 4, 2) := by decide +kernel
theorem dX12_mayCome_34 : decode cX12_mayCome 34 = .ok (.iload 4, 2) := by decide +kernel
theorem dX12_mayCome_36 : decode cX12_mayCome 36 = .ok (.iload_n 1, 1) := by decide +kernel
theorem dX12_mayCome_37 : decode cX12_mayCome 37 = .ok (.if_icmp .gt 28, 3) := by decide +kernel
theorem dX12_mayCome_40 : decode cX12_mayCome 40 = .ok (.iload_n 3, 1) := by decide +kernel
theorem dX12_mayCome_41 : decode cX12_mayCome 41 = .ok (.aload_n 0, 1) := by decide +kernel
theorem dX12_mayCome_42 : decode cX12_mayCome 42 = .ok (.getfield 157, 3) := by decide +kernel
theorem dX12_mayCome_45 : decode cX12_mayCome 45 = .ok (.iload 4, 2) := by decide +kernel
theorem dX12_mayCome_47 : decode cX12_mayCome 47 = .ok (.iaload, 1) := by decide +kernel
theorem dX12_mayCome_48 : decode cX12_mayCome 48 = .ok (.iload_n 2, 1) := by decide +kernel
theorem dX12_mayCome_49 : decode cX12_mayCome 49 = .ok (.if_icmp .ne 7, 3) := by decide +kernel
theorem dX12_mayCome_52 : decode cX12_mayCome 52 = .ok (.iconst 1, 1) := by decide +kernel
theorem dX12_mayCome_53 : decode cX12_mayCome 53 = .ok (.goto 4, 3) := by decide +kernel
theorem dX12_mayCome_56 : decode cX12_mayCome 56 = .ok (.iconst 0, 1) := by decide +kernel
theorem dX12_mayCome_57 : decode cX12_mayCome 57 = .ok (.iadd, 1) := by decide +kernel
theorem dX12_mayCome_58 : decode cX12_mayCome 58 = .ok (.istore_n 3, 1) := by decide +kernel
theorem dX12_mayCome_59 : decode cX12_mayCome 59 = .ok (.iinc 4 1, 3) := by decide +kernel
theorem dX12_mayCome_62 : decode cX12_mayCome 62 = .ok (.goto (-28), 3) := by decide +kernel
theorem dX12_mayCome_65 : decode cX12_mayCome 65 = .ok (.iload_n 3, 1) := by decide +kernel
theorem dX12_mayCome_66 : decode cX12_mayCome 66 = .ok (.aload_n 0, 1) := by decide +kernel
theorem dX12_mayCome_67 : decode cX12_mayCome 67 = .ok (.getfield 148, 3) := by decide +kernel
theorem dX12_mayCome_70 : decode cX12_mayCome 70 = .ok (.iload_n 2, 1) := by decide +kernel
theorem dX12_mayCome_71 : decode cX12_mayCome 71 = .ok (.iaload, 1) := by decide +kernel
theorem dX12_mayCome_72 : decode cX12_mayCome 72 = .ok (.if_icmp .gt 7, 3) := by decide +kernel
theorem dX12_mayCome_75 : decode cX12_mayCome 75 = .ok (.iconst 1, 1) := by decide +kernel
theorem dX12_mayCome_76 : decode cX12_mayCome 76 = .ok (.goto 4, 3) := by decide +kernel
theorem dX12_mayCome_79 : decode cX12_mayCome 79 = .ok (.iconst 0, 1) := by decide +kernel
theorem dX12_mayCome_80 : decode cX12_mayCome 80 = .ok (.ireturn, 1) := by decide +kernel
theorem dX12_movedTo_0 : decode cX12_movedTo 0 = .ok (.iconst 0, 1) := by decide +kernel
theorem dX12_movedTo_1 : decode cX12_movedTo 1 = .ok (.istore_n 2, 1) := by decide +kernel
theorem dX12_movedTo_2 : decode cX12_movedTo 2 = .ok (.iconst 0, 1) := by decide +kernel
theorem dX12_movedTo_3 : decode cX12_movedTo 3 = .ok (.istore_n 3, 1) := by decide +kernel
theorem dX12_movedTo_4 : decode cX12_movedTo 4 = .ok (.iload_n 3, 1) := by decide +kernel
theorem dX12_movedTo_5 : decode cX12_movedTo 5 = .ok (.iload_n 1, 1) := by decide +kernel
theorem dX12_movedTo_6 : decode cX12_movedTo 6 = .ok (.if_icmp .ge 30, 3) := by decide +kernel
theorem dX12_movedTo_9 : decode cX12_movedTo 9 = .ok (.iload_n 2, 1) := by decide +kernel
theorem dX12_movedTo_10 : decode cX12_movedTo 10 = .ok (.aload_n 0, 1) := by decide +kernel
theorem dX12_movedTo_11 : decode cX12_movedTo 11 = .ok (.getfield 157, 3) := by decide +kernel
theorem dX12_movedTo_14 : decode cX12_movedTo 14 = .ok (.iload_n 3, 1) := by decide +kernel
theorem dX12_movedTo_15 : decode cX12_movedTo 15 = .ok (.iaload, 1) := by decide +kernel
theorem dX12_movedTo_16 : decode cX12_movedTo 16 = .ok (.aload_n 0, 1) := by decide +kernel
theorem dX12_movedTo_17 : decode cX12_movedTo 17 = .ok (.getfield 203, 3) := by decide +kernel
theorem dX12_movedTo_20 : decode cX12_movedTo 20 = .ok (.if_icmp .ge 7, 3) := by decide +kernel
theorem dX12_movedTo_23 : decode cX12_movedTo 23 = .ok (.iconst 1, 1) := by decide +kernel
theorem dX12_movedTo_24 : decode cX12_movedTo 24 = .ok (.goto 4, 3) := by decide +kernel
theorem dX12_movedTo_27 : decode cX12_movedTo 27 = .ok (.iconst 0, 1) := by decide +kernel
theorem dX12_movedTo_28 : decode cX12_movedTo 28 = .ok (.iadd, 1) := by decide +kernel
theorem dX12_movedTo_29 : decode cX12_movedTo 29 = .ok (.istore_n 2, 1) := by decide +kernel
theorem dX12_movedTo_30 : decode cX12_movedTo 30 = .ok (.iinc 3 1, 3) := by decide +kernel
theorem dX12_movedTo_33 : decode cX12_movedTo 33 = .ok (.goto (-29), 3) := by decide +kernel
theorem dX12_movedTo_36 : decode cX12_movedTo 36 = .ok (.iload_n 2, 1) := by decide +kernel
theorem dX12_movedTo_37 : decode cX12_movedTo 37 = .ok (.ireturn, 1) := by decide +kernel
theorem dX12_milesTo_0 : decode cX12_milesTo 0 = .ok (.iconst 0, 1) := by decide +kernel
theorem dX12_milesTo_1 : decode cX12_milesTo 1 = .ok (.istore_n 2, 1) := by decide +kernel
theorem dX12_milesTo_2 : decode cX12_milesTo 2 = .ok (.iconst 0, 1) := by decide +kernel
theorem dX12_milesTo_3 : decode cX12_milesTo 3 = .ok (.istore_n 3, 1) := by decide +kernel
theorem dX12_milesTo_4 : decode cX12_milesTo 4 = .ok (.iload_n 3, 1) := by decide +kernel
theorem dX12_milesTo_5 : decode cX12_milesTo 5 = .ok (.iload_n 1, 1) := by decide +kernel
theorem dX12_milesTo_6 : decode cX12_milesTo 6 = .ok (.if_icmp .ge 45, 3) := by decide +kernel
theorem dX12_milesTo_9 : decode cX12_milesTo 9 = .ok (.iload_n 2, 1) := by decide +kernel
theorem dX12_milesTo_10 : decode cX12_milesTo 10 = .ok (.aload_n 0, 1) := by decide +kernel
theorem dX12_milesTo_11 : decode cX12_milesTo 11 = .ok (.getfield 157, 3) := by decide +kernel
theorem dX12_milesTo_14 : decode cX12_milesTo 14 = .ok (.iload_n 3, 1) := by decide +kernel
theorem dX12_milesTo_15 : decode cX12_milesTo 15 = .ok (.iaload, 1) := by decide +kernel
theorem dX12_milesTo_16 : decode cX12_milesTo 16 = .ok (.aload_n 0, 1) := by decide +kernel
theorem dX12_milesTo_17 : decode cX12_milesTo 17 = .ok (.getfield 203, 3) := by decide +kernel
theorem dX12_milesTo_20 : decode cX12_milesTo 20 = .ok (.if_icmp .ge 22, 3) := by decide +kernel
theorem dX12_milesTo_23 : decode cX12_milesTo 23 = .ok (.aload_n 0, 1) := by decide +kernel
theorem dX12_milesTo_24 : decode cX12_milesTo 24 = .ok (.aload_n 0, 1) := by decide +kernel
theorem dX12_milesTo_25 : decode cX12_milesTo 25 = .ok (.getfield 157, 3) := by decide +kernel
theorem dX12_milesTo_28 : decode cX12_milesTo 28 = .ok (.iload_n 3, 1) := by decide +kernel
theorem dX12_milesTo_29 : decode cX12_milesTo 29 = .ok (.iaload, 1) := by decide +kernel
theorem dX12_milesTo_30 : decode cX12_milesTo 30 = .ok (.aload_n 0, 1) := by decide +kernel
theorem dX12_milesTo_31 : decode cX12_milesTo 31 = .ok (.getfield 154, 3) := by decide +kernel
theorem dX12_milesTo_34 : decode cX12_milesTo 34 = .ok (.iload_n 3, 1) := by decide +kernel
theorem dX12_milesTo_35 : decode cX12_milesTo 35 = .ok (.iaload, 1) := by decide +kernel
theorem dX12_milesTo_36 : decode cX12_milesTo 36 = .ok (.invokevirtual 374, 3) := by decide +kernel
theorem dX12_milesTo_39 : decode cX12_milesTo 39 = .ok (.goto 4, 3) := by decide +kernel
theorem dX12_milesTo_42 : decode cX12_milesTo 42 = .ok (.iconst 0, 1) := by decide +kernel
theorem dX12_milesTo_43 : decode cX12_milesTo 43 = .ok (.iadd, 1) := by decide +kernel
theorem dX12_milesTo_44 : decode cX12_milesTo 44 = .ok (.istore_n 2, 1) := by decide +kernel
theorem dX12_milesTo_45 : decode cX12_milesTo 45 = .ok (.iinc 3 1, 3) := by decide +kernel
theorem dX12_milesTo_48 : decode cX12_milesTo 48 = .ok (.goto (-44), 3) := by decide +kernel
theorem dX12_milesTo_51 : decode cX12_milesTo 51 = .ok (.iload_n 2, 1) := by decide +kernel
theorem dX12_milesTo_52 : decode cX12_milesTo 52 = .ok (.ireturn, 1) := by decide +kernel
theorem dX12_ways_0 : decode cX12_ways 0 = .ok (.iconst 0, 1) := by decide +kernel
theorem dX12_ways_1 : decode cX12_ways 1 = .ok (.istore_n 1, 1) := by decide +kernel
theorem dX12_ways_2 : decode cX12_ways 2 = .ok (.iconst 0, 1) := by decide +kernel
theorem dX12_ways_3 : decode cX12_ways 3 = .ok (.istore_n 2, 1) := by decide +kernel
theorem dX12_ways_4 : decode cX12_ways 4 = .ok (.iload_n 2, 1) := by decide +kernel
theorem dX12_ways_5 : decode cX12_ways 5 = .ok (.aload_n 0, 1) := by decide +kernel
theorem dX12_ways_6 : decode cX12_ways 6 = .ok (.getfield 203, 3) := by decide +kernel
theorem dX12_ways_9 : decode cX12_ways 9 = .ok (.if_icmp .ge 37, 3) := by decide +kernel
theorem dX12_ways_12 : decode cX12_ways 12 = .ok (.iconst 0, 1) := by decide +kernel
theorem dX12_ways_13 : decode cX12_ways 13 = .ok (.istore_n 3, 1) := by decide +kernel
theorem dX12_ways_14 : decode cX12_ways 14 = .ok (.iload_n 3, 1) := by decide +kernel
theorem dX12_ways_15 : decode cX12_ways 15 = .ok (.aload_n 0, 1) := by decide +kernel
theorem dX12_ways_16 : decode cX12_ways 16 = .ok (.getfield 151, 3) := by decide +kernel
theorem dX12_ways_19 : decode cX12_ways 19 = .ok (.iload_n 2, 1) := by decide +kernel
theorem dX12_ways_20 : decode cX12_ways 20 = .ok (.iaload, 1) := by decide +kernel
theorem dX12_ways_21 : decode cX12_ways 21 = .ok (.if_icmp .ge 19, 3) := by decide +kernel
theorem dX12_ways_24 : decode cX12_ways 24 = .ok (.aload_n 0, 1) := by decide +kernel
theorem dX12_ways_25 : decode cX12_ways 25 = .ok (.getfield 154, 3) := by decide +kernel
theorem dX12_ways_28 : decode cX12_ways 28 = .ok (.iload_n 1, 1) := by decide +kernel
theorem dX12_ways_29 : decode cX12_ways 29 = .ok (.iload_n 2, 1) := by decide +kernel
theorem dX12_ways_30 : decode cX12_ways 30 = .ok (.iastore, 1) := by decide +kernel
theorem dX12_ways_31 : decode cX12_ways 31 = .ok (.iinc 1 1, 3) := by decide +kernel
theorem dX12_ways_34 : decode cX12_ways 34 = .ok (.iinc 3 1, 3) := by decide +kernel
theorem dX12_ways_37 : decode cX12_ways 37 = .ok (.goto (-23), 3) := by decide +kernel
theorem dX12_ways_40 : decode cX12_ways 40 = .ok (.iinc 2 1, 3) := by decide +kernel
theorem dX12_ways_43 : decode cX12_ways 43 = .ok (.goto (-39), 3) := by decide +kernel
theorem dX12_ways_46 : decode cX12_ways 46 = .ok (.iload_n 1, 1) := by decide +kernel
theorem dX12_ways_47 : decode cX12_ways 47 = .ok (.bipush 6, 2) := by decide +kernel
theorem dX12_ways_49 : decode cX12_ways 49 = .ok (.if_icmp .le 6, 3) := by decide +kernel
theorem dX12_ways_52 : decode cX12_ways 52 = .ok (.bipush (-4), 2) := by decide +kernel
theorem dX12_ways_54 : decode cX12_ways 54 = .ok (.ireturn, 1) := by decide +kernel
theorem dX12_ways_55 : decode cX12_ways 55 = .ok (.aload_n 0, 1) := by decide +kernel
theorem dX12_ways_56 : decode cX12_ways 56 = .ok (.iload_n 1, 1) := by decide +kernel
theorem dX12_ways_57 : decode cX12_ways 57 = .ok (.putfield 163, 3) := by decide +kernel
theorem dX12_ways_60 : decode cX12_ways 60 = .ok (.aload_n 0, 1) := by decide +kernel
theorem dX12_ways_61 : decode cX12_ways 61 = .ok (.aload_n 0, 1) := by decide +kernel
theorem dX12_ways_62 : decode cX12_ways 62 = .ok (.getfield 203, 3) := by decide +kernel
theorem dX12_ways_65 : decode cX12_ways 65 = .ok (.putfield 377, 3) := by decide +kernel
theorem dX12_ways_68 : decode cX12_ways 68 = .ok (.iconst (-1), 1) := by decide +kernel
theorem dX12_ways_69 : decode cX12_ways 69 = .ok (.istore_n 2, 1) := by decide +kernel
theorem dX12_ways_70 : decode cX12_ways 70 = .ok (.iconst 0, 1) := by decide +kernel
theorem dX12_ways_71 : decode cX12_ways 71 = .ok (.istore_n 3, 1) := by decide +kernel
theorem dX12_ways_72 : decode cX12_ways 72 = .ok (.iconst 0, 1) := by decide +kernel
theorem dX12_ways_73 : decode cX12_ways 73 = .ok (.istore 4, 2) := by decide +kernel
theorem dX12_ways_75 : decode cX12_ways 75 = .ok (.aload_n 0, 1) := by decide +kernel
theorem dX12_ways_76 : decode cX12_ways 76 = .ok (.getfield 157, 3) := by decide +kernel
theorem dX12_ways_79 : decode cX12_ways 79 = .ok (.iconst 0, 1) := by decide +kernel
theorem dX12_ways_80 : decode cX12_ways 80 = .ok (.iconst (-1), 1) := by decide +kernel
theorem dX12_ways_81 : decode cX12_ways 81 = .ok (.iastore, 1) := by decide +kernel
theorem dX12_ways_82 : decode cX12_ways 82 = .ok (.iload 4, 2) := by decide +kernel
theorem dX12_ways_84 : decode cX12_ways 84 = .ok (.ifCond .lt 164, 3) := by decide +kernel
theorem dX12_ways_87 : decode cX12_ways 87 = .ok (.iload_n 1, 1) := by decide +kernel
theorem dX12_ways_88 : decode cX12_ways 88 = .ok (.ifCond .le 160, 3) := by decide +kernel
theorem dX12_ways_91 : decode cX12_ways 91 = .ok (.aload_n 0, 1) := by decide +kernel
theorem dX12_ways_92 : decode cX12_ways 92 = .ok (.getfield 157, 3) := by decide +kernel
theorem dX12_ways_95 : decode cX12_ways 95 = .ok (.iload 4, 2) := by decide +kernel
theorem dX12_ways_97 : decode cX12_ways 97 = .ok (.dup2, 1) := by decide +kernel
theorem dX12_ways_98 : decode cX12_ways 98 = .ok (.iaload, 1) := by decide +kernel
theorem dX12_ways_99 : decode cX12_ways 99 = .ok (.iconst 1, 1) := by decide +kernel
theorem dX12_ways_100 : decode cX12_ways 100 = .ok (.iadd, 1) := by decide +kernel
theorem dX12_ways_101 : decode cX12_ways 101 = .ok (.iastore, 1) := by decide +kernel
theorem dX12_ways_102 : decode cX12_ways 102 = .ok (.aload_n 0, 1) := by decide +kernel
theorem dX12_ways_103 : decode cX12_ways 103 = .ok (.getfield 157, 3) := by decide +kernel
theorem dX12_ways_106 : decode cX12_ways 106 = .ok (.iload 4, 2) := by decide +kernel
theorem dX12_ways_108 : decode cX12_ways 108 = .ok (.iaload, 1) := by decide +kernel
theorem dX12_ways_109 : decode cX12_ways 109 = .ok (.aload_n 0, 1) := by decide +kernel
theorem dX12_ways_110 : decode cX12_ways 110 = .ok (.getfield 203, 3) := by decide +kernel
theorem dX12_ways_113 : decode cX12_ways 113 = .ok (.if_icmp .le 9, 3) := by decide +kernel
theorem dX12_ways_116 : decode cX12_ways 116 = .ok (.iinc 4 (-1), 3) := by decide +kernel
theorem dX12_ways_119 : decode cX12_ways 119 = .ok (.goto (-37), 3) := by decide +kernel
theorem dX12_ways_122 : decode cX12_ways 122 = .ok (.aload_n 0, 1) := by decide +kernel
theorem dX12_ways_123 : decode cX12_ways 123 = .ok (.iload 4, 2) := by decide +kernel
theorem dX12_ways_125 : decode cX12_ways 125 = .ok (.invokevirtual 380, 3) := by decide +kernel
theorem dX12_ways_128 : decode cX12_ways 128 = .ok (.ifCond .ne 6, 3) := by decide +kernel
theorem dX12_ways_131 : decode cX12_ways 131 = .ok (.goto (-49), 3) := by decide +kernel
theorem dX12_ways_134 : decode cX12_ways 134 = .ok (.aload_n 0, 1) := by decide +kernel
theorem dX12_ways_135 : decode cX12_ways 135 = .ok (.iload 4, 2) := by decide +kernel
theorem dX12_ways_137 : decode cX12_ways 137 = .ok (.iconst 1, 1) := by decide +kernel
theorem dX12_ways_138 : decode cX12_ways 138 = .ok (.iadd, 1) := by decide +kernel
theorem dX12_ways_139 : decode cX12_ways 139 = .ok (.invokevirtual 383, 3) := by decide +kernel
theorem dX12_ways_142 : decode cX12_ways 142 = .ok (.iload_n 1, 1) := by decide +kernel
theorem dX12_ways_143 : decode cX12_ways 143 = .ok (.iadd, 1) := by decide +kernel
theorem dX12_ways_144 : decode cX12_ways 144 = .ok (.iload 4, 2) := by decide +kernel
theorem dX12_ways_146 : decode cX12_ways 146 = .ok (.isub, 1) := by decide +kernel
theorem dX12_ways_147 : decode cX12_ways 147 = .ok (.iconst 1, 1) := by decide +kernel
theorem dX12_ways_148 : decode cX12_ways 148 = .ok (.isub, 1) := by decide +kernel
theorem dX12_ways_149 : decode cX12_ways 149 = .ok (.istore 5, 2) := by decide +kernel
theorem dX12_ways_151 : decode cX12_ways 151 = .ok (.iload_n 2, 1) := by decide +kernel
theorem dX12_ways_152 : decode cX12_ways 152 = .ok (.ifCond .lt 30, 3) := by decide +kernel
theorem dX12_ways_155 : decode cX12_ways 155 = .ok (.iload 5, 2) := by decide +kernel
theorem dX12_ways_157 : decode cX12_ways 157 = .ok (.iload_n 2, 1) := by decide +kernel
theorem dX12_ways_158 : decode cX12_ways 158 = .ok (.if_icmp .lt (-76), 3) := by decide +kernel
theorem dX12_ways_161 : decode cX12_ways 161 = .ok (.iload 5, 2) := by decide +kernel
theorem dX12_ways_163 : decode cX12_ways 163 = .ok (.iload_n 2, 1) := by decide +kernel
theorem dX12_ways_164 : decode cX12_ways 164 = .ok (.if_icmp .ne 18, 3) := by decide +kernel
theorem dX12_ways_167 : decode cX12_ways 167 = .ok (.aload_n 0, 1) := by decide +kernel
theorem dX12_ways_168 : decode cX12_ways 168 = .ok (.iload 4, 2) := by decide +kernel
theorem dX12_ways_170 : decode cX12_ways 170 = .ok (.iconst 1, 1) := by decide +kernel
theorem dX12_ways_171 : decode cX12_ways 171 = .ok (.iadd, 1) := by decide +kernel
theorem dX12_ways_172 : decode cX12_ways 172 = .ok (.invokevirtual 386, 3) := by decide +kernel
theorem dX12_ways_175 : decode cX12_ways 175 = .ok (.iload_n 3, 1) := by decide +kernel
theorem dX12_ways_176 : decode cX12_ways 176 = .ok (.if_icmp .lt 6, 3) := by decide +kernel
theorem dX12_ways_179 : decode cX12_ways 179 = .ok (.goto (-97), 3) := by decide +kernel
theorem dX12_ways_182 : decode cX12_ways 182 = .ok (.iload 4, 2) := by decide +kernel
theorem dX12_ways_184 : decode cX12_ways 184 = .ok (.iload_n 1, 1) := by decide +kernel
theorem dX12_ways_185 : decode cX12_ways 185 = .ok (.iconst 1, 1) := by decide +kernel
theorem dX12_ways_186 : decode cX12_ways 186 = .ok (.isub, 1) := by decide +kernel
theorem dX12_ways_187 : decode cX12_ways 187 = .ok (.if_icmp .ge 17, 3) := by decide +kernel
theorem dX12_ways_190 : decode cX12_ways 190 = .ok (.iinc 4 1, 3) := by decide +kernel
theorem dX12_ways_193 : decode cX12_ways 193 = .ok (.aload_n 0, 1) := by decide +kernel
theorem dX12_ways_194 : decode cX12_ways 194 = .ok (.getfield 157, 3) := by decide +kernel
theorem dX12_ways_197 : decode cX12_ways 197 = .ok (.iload 4, 2) := by decide +kernel
theorem dX12_ways_199 : decode cX12_ways 199 = .ok (.iconst (-1), 1) := by decide +kernel
theorem dX12_ways_200 : decode cX12_ways 200 = .ok (.iastore, 1) := by decide +kernel
theorem dX12_ways_201 : decode cX12_ways 201 = .ok (.goto (-119), 3) := by decide +kernel
theorem dX12_ways_204 : decode cX12_ways 204 = .ok (.aload_n 0, 1) := by decide +kernel
theorem dX12_ways_205 : decode cX12_ways 205 = .ok (.iload_n 1, 1) := by decide +kernel
theorem dX12_ways_206 : decode cX12_ways 206 = .ok (.invokevirtual 383, 3) := by decide +kernel
theorem dX12_ways_209 : decode cX12_ways 209 = .ok (.istore_n 2, 1) := by decide +kernel
theorem dX12_ways_210 : decode cX12_ways 210 = .ok (.aload_n 0, 1) := by decide +kernel
theorem dX12_ways_211 : decode cX12_ways 211 = .ok (.iload_n 1, 1) := by decide +kernel
theorem dX12_ways_212 : decode cX12_ways 212 = .ok (.invokevirtual 386, 3) := by decide +kernel
theorem dX12_ways_215 : decode cX12_ways 215 = .ok (.istore_n 3, 1) := by decide +kernel
theorem dX12_ways_216 : decode cX12_ways 216 = .ok (.iconst 0, 1) := by decide +kernel
theorem dX12_ways_217 : decode cX12_ways 217 = .ok (.istore 6, 2) := by decide +kernel
theorem dX12_ways_219 : decode cX12_ways 219 = .ok (.iload 6, 2) := by decide +kernel
theorem dX12_ways_221 : decode cX12_ways 221 = .ok (.iload_n 1, 1) := by decide +kernel
theorem dX12_ways_222 : decode cX12_ways 222 = .ok (.if_icmp .ge 23, 3) := by decide +kernel
theorem dX12_ways_225 : decode cX12_ways 225 = .ok (.aload_n 0, 1) := by decide +kernel
theorem dX12_ways_226 : decode cX12_ways 226 = .ok (.getfield 160, 3) := by decide +kernel
theorem dX12_ways_229 : decode cX12_ways 229 = .ok (.iload 6, 2) := by decide +kernel
theorem dX12_ways_231 : decode cX12_ways 231 = .ok (.aload_n 0, 1) := by decide +kernel
theorem dX12_ways_232 : decode cX12_ways 232 = .ok (.getfield 157, 3) := by decide +kernel
theorem dX12_ways_235 : decode cX12_ways 235 = .ok (.iload 6, 2) := by decide +kernel
theorem dX12_ways_237 : decode cX12_ways 237 = .ok (.iaload, 1) := by decide +kernel
theorem dX12_ways_238 : decode cX12_ways 238 = .ok (.iastore, 1) := by decide +kernel
theorem dX12_ways_239 : decode cX12_ways 239 = .ok (.iinc 6 1, 3) := by decide +kernel
theorem dX12_ways_242 : decode cX12_ways 242 = .ok (.goto (-23), 3) := by decide +kernel
theorem dX12_ways_245 : decode cX12_ways 245 = .ok (.goto (-163), 3) := by decide +kernel
theorem dX12_ways_248 : decode cX12_ways 248 = .ok (.iload_n 3, 1) := by decide +kernel
theorem dX12_ways_249 : decode cX12_ways 249 = .ok (.ireturn, 1) := by decide +kernel
theorem dX12_comes_0 : decode cX12_comes 0 = .ok (.iload_n 1, 1) := by decide +kernel
theorem dX12_comes_1 : decode cX12_comes 1 = .ok (.iconst 0, 1) := by decide +kernel
theorem dX12_comes_2 : decode cX12_comes 2 = .ok (.aload_n 0, 1) := by decide +kernel
theorem dX12_comes_3 : decode cX12_comes 3 = .ok (.getfield 163, 3) := by decide +kernel
theorem dX12_comes_6 : decode cX12_comes 6 = .ok (.iconst 1, 1) := by decide +kernel
theorem dX12_comes_7 : decode cX12_comes 7 = .ok (.isub, 1) := by decide +kernel
theorem dX12_comes_8 : decode cX12_comes 8 = .ok (.invokestatic 196, 3) := by decide +kernel
theorem dX12_comes_11 : decode cX12_comes 11 = .ok (.ifCond .ne 7, 3) := by decide +kernel
theorem dX12_comes_14 : decode cX12_comes 14 = .ok (.iconst (-1), 1) := by decide +kernel
theorem dX12_comes_15 : decode cX12_comes 15 = .ok (.goto 27, 3) := by decide +kernel
theorem dX12_comes_18 : decode cX12_comes 18 = .ok (.aload_n 0, 1) := by decide +kernel
theorem dX12_comes_19 : decode cX12_comes 19 = .ok (.getfield 160, 3) := by decide +kernel
theorem dX12_comes_22 : decode cX12_comes 22 = .ok (.iload_n 1, 1) := by decide +kernel
theorem dX12_comes_23 : decode cX12_comes 23 = .ok (.iaload, 1) := by decide +kernel
theorem dX12_comes_24 : decode cX12_comes 24 = .ok (.aload_n 0, 1) := by decide +kernel
theorem dX12_comes_25 : decode cX12_comes 25 = .ok (.getfield 377, 3) := by decide +kernel
theorem dX12_comes_28 : decode cX12_comes 28 = .ok (.if_icmp .ne 8, 3) := by decide +kernel
theorem dX12_comes_31 : decode cX12_comes 31 = .ok (.bipush (-2), 2) := by decide +kernel
theorem dX12_comes_33 : decode cX12_comes 33 = .ok (.goto 9, 3) := by decide +kernel
theorem dX12_comes_36 : decode cX12_comes 36 = .ok (.aload_n 0, 1) := by decide +kernel
theorem dX12_comes_37 : decode cX12_comes 37 = .ok (.getfield 160, 3) := by decide +kernel
theorem dX12_comes_40 : decode cX12_comes 40 = .ok (.iload_n 1, 1) := by decide +kernel
theorem dX12_comes_41 : decode cX12_comes 41 = .ok (.iaload, 1) := by decide +kernel
theorem dX12_comes_42 : decode cX12_comes 42 = .ok (.ireturn, 1) := by decide +kernel
theorem dX12_move_0 : decode cX12_move 0 = .ok (.aload_n 0, 1) := by decide +kernel
theorem dX12_move_1 : decode cX12_move 1 = .ok (.iload_n 1, 1) := by decide +kernel
theorem dX12_move_2 : decode cX12_move 2 = .ok (.iload_n 3, 1) := by decide +kernel
theorem dX12_move_3 : decode cX12_move 3 = .ok (.invokevirtual 223, 3) := by decide +kernel
theorem dX12_move_6 : decode cX12_move 6 = .ok (.ifCond .eq 28, 3) := by decide +kernel
theorem dX12_move_9 : decode cX12_move 9 = .ok (.aload_n 0, 1) := by decide +kernel
theorem dX12_move_10 : decode cX12_move 10 = .ok (.iload_n 2, 1) := by decide +kernel
theorem dX12_move_11 : decode cX12_move 11 = .ok (.invokevirtual 209, 3) := by decide +kernel
theorem dX12_move_14 : decode cX12_move 14 = .ok (.ifCond .eq 20, 3) := by decide +kernel
theorem dX12_move_17 : decode cX12_move 17 = .ok (.iload_n 1, 1) := by decide +kernel
theorem dX12_move_18 : decode cX12_move 18 = .ok (.iload_n 2, 1) := by decide +kernel
theorem dX12_move_19 : decode cX12_move 19 = .ok (.if_icmp .eq 15, 3) := by decide +kernel
theorem dX12_move_22 : decode cX12_move 22 = .ok (.iload 4, 2) := by decide +kernel
theorem dX12_move_24 : decode cX12_move 24 = .ok (.iconst 1, 1) := by decide +kernel
theorem dX12_move_25 : decode cX12_move 25 = .ok (.sipush 999, 3) := by decide +kernel
theorem dX12_move_28 : decode cX12_move 28 = .ok (.invokestatic 196, 3) := by decide +kernel
theorem dX12_move_31 : decode cX12_move 31 = .ok (.ifCond .ne 5, 3) := by decide +kernel
theorem dX12_move_34 : decode cX12_move 34 = .ok (.iconst (-1), 1) := by decide +kernel
theorem dX12_move_35 : decode cX12_move 35 = .ok (.ireturn, 1) := by decide +kernel
theorem dX12_move_36 : decode cX12_move 36 = .ok (.aload_n 0, 1) := by decide +kernel
theorem dX12_move_37 : decode cX12_move 37 = .ok (.iload_n 1, 1) := by decide +kernel
theorem dX12_move_38 : decode cX12_move 38 = .ok (.iload_n 3, 1) := by decide +kernel
theorem dX12_move_39 : decode cX12_move 39 = .ok (.iconst 0, 1) := by decide +kernel
theorem dX12_move_40 : decode cX12_move 40 = .ok (.invokevirtual 347, 3) := by decide +kernel
theorem dX12_move_43 : decode cX12_move 43 = .ok (.ifCond .ge 6, 3) := by decide +kernel
theorem dX12_move_46 : decode cX12_move 46 = .ok (.bipush (-2), 2) := by decide +kernel
theorem dX12_move_48 : decode cX12_move 48 = .ok (.ireturn, 1) := by decide +kernel
theorem dX12_move_49 : decode cX12_move 49 = .ok (.iload 4, 2) := by decide +kernel
theorem dX12_move_51 : decode cX12_move 51 = .ok (.istore 5, 2) := by decide +kernel
theorem dX12_move_53 : decode cX12_move 53 = .ok (.iconst 0, 1) := by decide +kernel
theorem dX12_move_54 : decode cX12_move 54 = .ok (.istore 6, 2) := by decide +kernel
theorem dX12_move_56 : decode cX12_move 56 = .ok (.iconst 0, 1) := by decide +kernel
theorem dX12_move_57 : decode cX12_move 57 = .ok (.istore 7, 2) := by decide +kernel
theorem dX12_move_59 : decode cX12_move 59 = .ok (.iload 7, 2) := by decide +kernel
theorem dX12_move_61 : decode cX12_move 61 = .ok (.aload_n 0, 1) := by decide +kernel
theorem dX12_move_62 : decode cX12_move 62 = .ok (.getfield 227, 3) := by decide +kernel
theorem dX12_move_65 : decode cX12_move 65 = .ok (.if_icmp .ge 17, 3) := by decide +kernel
theorem dX12_move_68 : decode cX12_move 68 = .ok (.aload_n 0, 1) := by decide +kernel
theorem dX12_move_69 : decode cX12_move 69 = .ok (.getfield 166, 3) := by decide +kernel
theorem dX12_move_72 : decode cX12_move 72 = .ok (.iload 7, 2) := by decide +kernel
theorem dX12_move_74 : decode cX12_move 74 = .ok (.iconst 0, 1) := by decide +kernel
theorem dX12_move_75 : decode cX12_move 75 = .ok (.bastore, 1) := by decide +kernel
theorem dX12_move_76 : decode cX12_move 76 = .ok (.iinc 7 1, 3) := by decide +kernel
theorem dX12_move_79 : decode cX12_move 79 = .ok (.goto (-20), 3) := by decide +kernel
theorem dX12_move_82 : decode cX12_move 82 = .ok (.aload_n 0, 1) := by decide +kernel
theorem dX12_move_83 : decode cX12_move 83 = .ok (.iload_n 1, 1) := by decide +kernel
theorem dX12_move_84 : decode cX12_move 84 = .ok (.iload_n 3, 1) := by decide +kernel
theorem dX12_move_85 : decode cX12_move 85 = .ok (.invokevirtual 389, 3) := by decide +kernel
theorem dX12_move_88 : decode cX12_move 88 = .ok (.istore 7, 2) := by decide +kernel
theorem dX12_move_90 : decode cX12_move 90 = .ok (.iload 5, 2) := by decide +kernel
theorem dX12_move_92 : decode cX12_move 92 = .ok (.ifCond .le 57, 3) := by decide +kernel
theorem dX12_move_95 : decode cX12_move 95 = .ok (.iload 7, 2) := by decide +kernel
theorem dX12_move_97 : decode cX12_move 97 = .ok (.ifCond .lt 52, 3) := by decide +kernel
theorem dX12_move_100 : decode cX12_move 100 = .ok (.aload_n 0, 1) := by decide +kernel
theorem dX12_move_101 : decode cX12_move 101 = .ok (.getfield 166, 3) := by decide +kernel
theorem dX12_move_104 : decode cX12_move 104 = .ok (.iload 7, 2) := by decide +kernel
theorem dX12_move_106 : decode cX12_move 106 = .ok (.iconst 1, 1) := by decide +kernel
theorem dX12_move_107 : decode cX12_move 107 = .ok (.bastore, 1) := by decide +kernel
theorem dX12_move_108 : decode cX12_move 108 = .ok (.iload 5, 2) := by decide +kernel
theorem dX12_move_110 : decode cX12_move 110 = .ok (.aload_n 0, 1) := by decide +kernel
theorem dX12_move_111 : decode cX12_move 111 = .ok (.iload 7, 2) := by decide +kernel
theorem dX12_move_113 : decode cX12_move 113 = .ok (.invokevirtual 245, 3) := by decide +kernel
theorem dX12_move_116 : decode cX12_move 116 = .ok (.iload 5, 2) := by decide +kernel
theorem dX12_move_118 : decode cX12_move 118 = .ok (.if_icmp .ge 12, 3) := by decide +kernel
theorem dX12_move_121 : decode cX12_move 121 = .ok (.aload_n 0, 1) := by decide +kernel
theorem dX12_move_122 : decode cX12_move 122 = .ok (.iload 7, 2) := by decide +kernel
theorem dX12_move_124 : decode cX12_move 124 = .ok (.invokevirtual 245, 3) := by decide +kernel
theorem dX12_move_127 : decode cX12_move 127 = .ok (.goto 5, 3) := by decide +kernel
theorem dX12_move_130 : decode cX12_move 130 = .ok (.iload 5, 2) := by decide +kernel
theorem dX12_move_132 : decode cX12_move 132 = .ok (.isub, 1) := by decide +kernel
theorem dX12_move_133 : decode cX12_move 133 = .ok (.istore 5, 2) := by decide +kernel
theorem dX12_move_135 : decode cX12_move 135 = .ok (.iinc 6 1, 3) := by decide +kernel
theorem dX12_move_138 : decode cX12_move 138 = .ok (.aload_n 0, 1) := by decide +kernel
theorem dX12_move_139 : decode cX12_move 139 = .ok (.iload_n 1, 1) := by decide +kernel
theorem dX12_move_140 : decode cX12_move 140 = .ok (.iload_n 3, 1) := by decide +kernel
theorem dX12_move_141 : decode cX12_move 141 = .ok (.invokevirtual 389, 3) := by decide +kernel
theorem dX12_move_144 : decode cX12_move 144 = .ok (.istore 7, 2) := by decide +kernel
theorem dX12_move_146 : decode cX12_move 146 = .ok (.goto (-56), 3) := by decide +kernel
theorem dX12_move_149 : decode cX12_move 149 = .ok (.aload_n 0, 1) := by decide +kernel
theorem dX12_move_150 : decode cX12_move 150 = .ok (.getfield 227, 3) := by decide +kernel
theorem dX12_move_153 : decode cX12_move 153 = .ok (.iload 6, 2) := by decide +kernel
theorem dX12_move_155 : decode cX12_move 155 = .ok (.iadd, 1) := by decide +kernel
theorem dX12_move_156 : decode cX12_move 156 = .ok (.sipush 200, 3) := by decide +kernel
theorem dX12_move_159 : decode cX12_move 159 = .ok (.if_icmp .le 6, 3) := by decide +kernel
theorem dX12_move_162 : decode cX12_move 162 = .ok (.bipush (-3), 2) := by decide +kernel
theorem dX12_move_164 : decode cX12_move 164 = .ok (.ireturn, 1) := by decide +kernel
theorem dX12_move_165 : decode cX12_move 165 = .ok (.iload 4, 2) := by decide +kernel
theorem dX12_move_167 : decode cX12_move 167 = .ok (.istore 5, 2) := by decide +kernel
theorem dX12_move_169 : decode cX12_move 169 = .ok (.iconst 0, 1) := by decide +kernel
theorem dX12_move_170 : decode cX12_move 170 = .ok (.istore 8, 2) := by decide +kernel
theorem dX12_move_172 : decode cX12_move 172 = .ok (.iload 8, 2) := by decide +kernel
theorem dX12_move_174 : decode cX12_move 174 = .ok (.iload 6, 2) := by decide +kernel
theorem dX12_move_176 : decode cX12_move 176 = .ok (.if_icmp .ge 85, 3) := by decide +kernel
theorem dX12_move_179 : decode cX12_move 179 = .ok (.aload_n 0, 1) := by decide +kernel
theorem dX12_move_180 : decode cX12_move 180 = .ok (.iload_n 1, 1) := by decide +kernel
theorem dX12_move_181 : decode cX12_move 181 = .ok (.iload_n 3, 1) := by decide +kernel
theorem dX12_move_182 : decode cX12_move 182 = .ok (.iconst 0, 1) := by decide +kernel
theorem dX12_move_183 : decode cX12_move 183 = .ok (.invokevirtual 347, 3) := by decide +kernel
theorem dX12_move_186 : decode cX12_move 186 = .ok (.istore 9, 2) := by decide +kernel
theorem dX12_move_188 : decode cX12_move 188 = .ok (.aload_n 0, 1) := by decide +kernel
theorem dX12_move_189 : decode cX12_move 189 = .ok (.iload 9, 2) := by decide +kernel
theorem dX12_move_191 : decode cX12_move 191 = .ok (.invokevirtual 245, 3) := by decide +kernel
theorem dX12_move_194 : decode cX12_move 194 = .ok (.iload 5, 2) := by decide +kernel
theorem dX12_move_196 : decode cX12_move 196 = .ok (.if_icmp .ge 12, 3) := by decide +kernel
theorem dX12_move_199 : decode cX12_move 199 = .ok (.aload_n 0, 1) := by decide +kernel
theorem dX12_move_200 : decode cX12_move 200 = .ok (.iload 9, 2) := by decide +kernel
theorem dX12_move_202 : decode cX12_move 202 = .ok (.invokevirtual 245, 3) := by decide +kernel
theorem dX12_move_205 : decode cX12_move 205 = .ok (.goto 5, 3) := by decide +kernel
theorem dX12_move_208 : decode cX12_move 208 = .ok (.iload 5, 2) := by decide +kernel
theorem dX12_move_210 : decode cX12_move 210 = .ok (.istore 10, 2) := by decide +kernel
theorem dX12_move_212 : decode cX12_move 212 = .ok (.aload_n 0, 1) := by decide +kernel
theorem dX12_move_213 : decode cX12_move 213 = .ok (.getfield 64, 3) := by decide +kernel
theorem dX12_move_216 : decode cX12_move 216 = .ok (.iload 9, 2) := by decide +kernel
theorem dX12_move_218 : decode cX12_move 218 = .ok (.dup2, 1) := by decide +kernel
theorem dX12_move_219 : decode cX12_move 219 = .ok (.iaload, 1) := by decide +kernel
theorem dX12_move_220 : decode cX12_move 220 = .ok (.iload 10, 2) := by decide +kernel
theorem dX12_move_222 : decode cX12_move 222 = .ok (.iadd, 1) := by decide +kernel
theorem dX12_move_223 : decode cX12_move 223 = .ok (.iastore, 1) := by decide +kernel
theorem dX12_move_224 : decode cX12_move 224 = .ok (.iload 5, 2) := by decide +kernel
theorem dX12_move_226 : decode cX12_move 226 = .ok (.iload 10, 2) := by decide +kernel
theorem dX12_move_228 : decode cX12_move 228 = .ok (.isub, 1) := by decide +kernel
theorem dX12_move_229 : decode cX12_move 229 = .ok (.istore 5, 2) := by decide +kernel
theorem dX12_move_231 : decode cX12_move 231 = .ok (.aload_n 0, 1) := by decide +kernel
theorem dX12_move_232 : decode cX12_move 232 = .ok (.iload_n 2, 1) := by decide +kernel
theorem dX12_move_233 : decode cX12_move 233 = .ok (.iload_n 3, 1) := by decide +kernel
theorem dX12_move_234 : decode cX12_move 234 = .ok (.aload_n 0, 1) := by decide +kernel
theorem dX12_move_235 : decode cX12_move 235 = .ok (.getfield 49, 3) := by decide +kernel
theorem dX12_move_238 : decode cX12_move 238 = .ok (.iload 9, 2) := by decide +kernel
theorem dX12_move_240 : decode cX12_move 240 = .ok (.iaload, 1) := by decide +kernel
theorem dX12_move_241 : decode cX12_move 241 = .ok (.aload_n 0, 1) := by decide +kernel
theorem dX12_move_242 : decode cX12_move 242 = .ok (.getfield 52, 3) := by decide +kernel
theorem dX12_move_245 : decode cX12_move 245 = .ok (.iload 9, 2) := by decide +kernel
theorem dX12_move_247 : decode cX12_move 247 = .ok (.iaload, 1) := by decide +kernel
theorem dX12_move_248 : decode cX12_move 248 = .ok (.iload 10, 2) := by decide +kernel
theorem dX12_move_250 : decode cX12_move 250 = .ok (.iload 9, 2) := by decide +kernel
theorem dX12_move_252 : decode cX12_move 252 = .ok (.invokevirtual 234, 3) := by decide +kernel
theorem dX12_move_255 : decode cX12_move 255 = .ok (.iinc 8 1, 3) := by decide +kernel
theorem dX12_move_258 : decode cX12_move 258 = .ok (.goto (-86), 3) := by decide +kernel
theorem dX12_move_261 : decode cX12_move 261 = .ok (.iload 4, 2) := by decide +kernel
theorem dX12_move_263 : decode cX12_move 263 = .ok (.iload 5, 2) := by decide +kernel
theorem dX12_move_265 : decode cX12_move 265 = .ok (.isub, 1) := by decide +kernel
theorem dX12_move_266 : decode cX12_move 266 = .ok (.ireturn, 1) := by decide +kernel
theorem dX12_nextOf_0 : decode cX12_nextOf 0 = .ok (.iconst (-1), 1) := by decide +kernel
theorem dX12_nextOf_1 : decode cX12_nextOf 1 = .ok (.istore_n 3, 1) := by decide +kernel
theorem dX12_nextOf_2 : decode cX12_nextOf 2 = .ok (.iconst 0, 1) := by decide +kernel
theorem dX12_nextOf_3 : decode cX12_nextOf 3 = .ok (.istore 4, 2) := by decide +kernel
theorem dX12_nextOf_5 : decode cX12_nextOf 5 = .ok (.iload 4, 2) := by decide +kernel
theorem dX12_nextOf_7 : decode cX12_nextOf 7 = .ok (.aload_n 0, 1) := by decide +kernel
theorem dX12_nextOf_8 : decode cX12_nextOf 8 = .ok (.getfield 227, 3) := by decide +kernel
theorem dX12_nextOf_11 : decode cX12_nextOf 11 = .ok (.if_icmp .ge 83, 3) := by decide +kernel
theorem dX12_nextOf_14 : decode cX12_nextOf 14 = .ok (.aload_n 0, 1) := by decide +kernel
theorem dX12_nextOf_15 : decode cX12_nextOf 15 = .ok (.getfield 166, 3) := by decide +kernel
theorem dX12_nextOf_18 : decode cX12_nextOf 18 = .ok (.iload 4, 2) := by decide +kernel
theorem dX12_nextOf_20 : decode cX12_nextOf 20 = .ok (.baload, 1) := by decide +kernel
theorem dX12_nextOf_21 : decode cX12_nextOf 21 = .ok (.ifCond .ne 67, 3) := by decide +kernel
theorem dX12_nextOf_24 : decode cX12_nextOf 24 = .ok (.aload_n 0, 1) := by decide +kernel
theorem dX12_nextOf_25 : decode cX12_nextOf 25 = .ok (.getfield 43, 3) := by decide +kernel
theorem dX12_nextOf_28 : decode cX12_nextOf 28 = .ok (.iload 4, 2) := by decide +kernel
theorem dX12_nextOf_30 : decode cX12_nextOf 30 = .ok (.iaload, 1) := by decide +kernel
theorem dX12_nextOf_31 : decode cX12_nextOf 31 = .ok (.iload_n 1, 1) := by decide +kernel
theorem dX12_nextOf_32 : decode cX12_nextOf 32 = .ok (.if_icmp .ne 56, 3) := by decide +kernel
theorem dX12_nextOf_35 : decode cX12_nextOf 35 = .ok (.aload_n 0, 1) := by decide +kernel
theorem dX12_nextOf_36 : decode cX12_nextOf 36 = .ok (.getfield 46, 3) := by decide +kernel
theorem dX12_nextOf_39 : decode cX12_nextOf 39 = .ok (.iload 4, 2) := by decide +kernel
theorem dX12_nextOf_41 : decode cX12_nextOf 41 = .ok (.iaload, 1) := by decide +kernel
theorem dX12_nextOf_42 : decode cX12_nextOf 42 = .ok (.iload_n 2, 1) := by decide +kernel
theorem dX12_nextOf_43 : decode cX12_nextOf 43 = .ok (.if_icmp .ne 45, 3) := by decide +kernel
theorem dX12_nextOf_46 : decode cX12_nextOf 46 = .ok (.aload_n 0, 1) := by decide +kernel
theorem dX12_nextOf_47 : decode cX12_nextOf 47 = .ok (.iload 4, 2) := by decide +kernel
theorem dX12_nextOf_49 : decode cX12_nextOf 49 = .ok (.invokevirtual 245, 3) := by decide +kernel
theorem dX12_nextOf_52 : decode cX12_nextOf 52 = .ok (.ifCond .le 36, 3) := by decide +kernel
theorem dX12_nextOf_55 : decode cX12_nextOf 55 = .ok (.aload_n 0, 1) := by decide +kernel
theorem dX12_nextOf_56 : decode cX12_nextOf 56 = .ok (.iconst 0, 1) := by decide +kernel
theorem dX12_nextOf_57 : decode cX12_nextOf 57 = .ok (.iload 4, 2) := by decide +kernel
theorem dX12_nextOf_59 : decode cX12_nextOf 59 = .ok (.invokevirtual 327, 3) := by decide +kernel
theorem dX12_nextOf_62 : decode cX12_nextOf 62 = .ok (.ifCond .eq 26, 3) := by decide +kernel
theorem dX12_nextOf_65 : decode cX12_nextOf 65 = .ok (.iload_n 3, 1) := by decide +kernel
theorem dX12_nextOf_66 : decode cX12_nextOf 66 = .ok (.ifCond .lt 19, 3) := by decide +kernel
theorem dX12_nextOf_69 : decode cX12_nextOf 69 = .ok (.aload_n 0, 1) := by decide +kernel
theorem dX12_nextOf_70 : decode cX12_nextOf 70 = .ok (.getfield 52, 3) := by decide +kernel
theorem dX12_nextOf_73 : decode cX12_nextOf 73 = .ok (.iload 4, 2) := by decide +kernel
theorem dX12_nextOf_75 : decode cX12_nextOf 75 = .ok (.iaload, 1) := by decide +kernel
theorem dX12_nextOf_76 : decode cX12_nextOf 76 = .ok (.aload_n 0, 1) := by decide +kernel
theorem dX12_nextOf_77 : decode cX12_nextOf 77 = .ok (.getfield 52, 3) := by decide +kernel
theorem dX12_nextOf_80 : decode cX12_nextOf 80 = .ok (.iload_n 3, 1) := by decide +kernel
theorem dX12_nextOf_81 : decode cX12_nextOf 81 = .ok (.iaload, 1) := by decide +kernel
theorem dX12_nextOf_82 : decode cX12_nextOf 82 = .ok (.if_icmp .ge 6, 3) := by decide +kernel
theorem dX12_nextOf_85 : decode cX12_nextOf 85 = .ok (.iload 4, 2) := by decide +kernel
theorem dX12_nextOf_87 : decode cX12_nextOf 87 = .ok (.istore_n 3, 1) := by decide +kernel
theorem dX12_nextOf_88 : decode cX12_nextOf 88 = .ok (.iinc 4 1, 3) := by decide +kernel
theorem dX12_nextOf_91 : decode cX12_nextOf 91 = .ok (.goto (-86), 3) := by decide +kernel
theorem dX12_nextOf_94 : decode cX12_nextOf 94 = .ok (.iload_n 3, 1) := by decide +kernel
theorem dX12_nextOf_95 : decode cX12_nextOf 95 = .ok (.ireturn, 1) := by decide +kernel
theorem dX12_drawn_0 : decode cX12_drawn 0 = .ok (.aload_n 0, 1) := by decide +kernel
theorem dX12_drawn_1 : decode cX12_drawn 1 = .ok (.iload_n 1, 1) := by decide +kernel
theorem dX12_drawn_2 : decode cX12_drawn 2 = .ok (.invokevirtual 209, 3) := by decide +kernel
theorem dX12_drawn_5 : decode cX12_drawn 5 = .ok (.ifCond .eq 12, 3) := by decide +kernel
theorem dX12_drawn_8 : decode cX12_drawn 8 = .ok (.iload_n 2, 1) := by decide +kernel
theorem dX12_drawn_9 : decode cX12_drawn 9 = .ok (.iconst (-1), 1) := by decide +kernel
theorem dX12_drawn_10 : decode cX12_drawn 10 = .ok (.iconst 1, 1) := by decide +kernel
theorem dX12_drawn_11 : decode cX12_drawn 11 = .ok (.invokestatic 196, 3) := by decide +kernel
theorem dX12_drawn_14 : decode cX12_drawn 14 = .ok (.ifCond .ne 6, 3) := by decide +kernel
theorem dX12_drawn_17 : decode cX12_drawn 17 = .ok (.bipush (-2), 2) := by decide +kernel
theorem dX12_drawn_19 : decode cX12_drawn 19 = .ok (.ireturn, 1) := by decide +kernel
theorem dX12_drawn_20 : decode cX12_drawn 20 = .ok (.aload_n 0, 1) := by decide +kernel
theorem dX12_drawn_21 : decode cX12_drawn 21 = .ok (.getfield 169, 3) := by decide +kernel
theorem dX12_drawn_24 : decode cX12_drawn 24 = .ok (.iload_n 1, 1) := by decide +kernel
theorem dX12_drawn_25 : decode cX12_drawn 25 = .ok (.iaload, 1) := by decide +kernel
theorem dX12_drawn_26 : decode cX12_drawn 26 = .ok (.istore_n 3, 1) := by decide +kernel
theorem dX12_drawn_27 : decode cX12_drawn 27 = .ok (.aload_n 0, 1) := by decide +kernel
theorem dX12_drawn_28 : decode cX12_drawn 28 = .ok (.getfield 169, 3) := by decide +kernel
theorem dX12_drawn_31 : decode cX12_drawn 31 = .ok (.iload_n 1, 1) := by decide +kernel
theorem dX12_drawn_32 : decode cX12_drawn 32 = .ok (.iload_n 2, 1) := by decide +kernel
theorem dX12_drawn_33 : decode cX12_drawn 33 = .ok (.iastore, 1) := by decide +kernel
theorem dX12_drawn_34 : decode cX12_drawn 34 = .ok (.iload_n 3, 1) := by decide +kernel
theorem dX12_drawn_35 : decode cX12_drawn 35 = .ok (.ireturn, 1) := by decide +kernel
theorem dX12_earlyOf_0 : decode cX12_earlyOf 0 = .ok (.iconst 0, 1) := by decide +kernel
theorem dX12_earlyOf_1 : decode cX12_earlyOf 1 = .ok (.istore 5, 2) := by decide +kernel
theorem dX12_earlyOf_3 : decode cX12_earlyOf 3 = .ok (.iconst 0, 1) := by decide +kernel
theorem dX12_earlyOf_4 : decode cX12_earlyOf 4 = .ok (.istore 6, 2) := by decide +kernel
theorem dX12_earlyOf_6 : decode cX12_earlyOf 6 = .ok (.iload 6, 2) := by decide +kernel
theorem dX12_earlyOf_8 : decode cX12_earlyOf 8 = .ok (.aload_n 0, 1) := by decide +kernel
theorem dX12_earlyOf_9 : decode cX12_earlyOf 9 = .ok (.getfield 337, 3) := by decide +kernel
theorem dX12_earlyOf_12 : decode cX12_earlyOf 12 = .ok (.if_icmp .ge 82, 3) := by decide +kernel
theorem dX12_earlyOf_15 : decode cX12_earlyOf 15 = .ok (.aload_n 0, 1) := by decide +kernel
theorem dX12_earlyOf_16 : decode cX12_earlyOf 16 = .ok (.getfield 107, 3) := by decide +kernel
theorem dX12_earlyOf_19 : decode cX12_earlyOf 19 = .ok (.iload 6, 2) := by decide +kernel
theorem dX12_earlyOf_21 : decode cX12_earlyOf 21 = .ok (.iaload, 1) := by decide +kernel
theorem dX12_earlyOf_22 : decode cX12_earlyOf 22 = .ok (.iload_n 1, 1) := by decide +kernel
theorem dX12_earlyOf_23 : decode cX12_earlyOf 23 = .ok (.if_icmp .ne 65, 3) := by decide +kernel
theorem dX12_earlyOf_26 : decode cX12_earlyOf 26 = .ok (.aload_n 0, 1) := by decide +kernel
theorem dX12_earlyOf_27 : decode cX12_earlyOf 27 = .ok (.getfield 110, 3) := by decide +kernel
theorem dX12_earlyOf_30 : decode cX12_earlyOf 30 = .ok (.iload 6, 2) := by decide +kernel
theorem dX12_earlyOf_32 : decode cX12_earlyOf 32 = .ok (.iaload, 1) := by decide +kernel
theorem dX12_earlyOf_33 : decode cX12_earlyOf 33 = .ok (.iload_n 2, 1) := by decide +kernel
theorem dX12_earlyOf_34 : decode cX12_earlyOf 34 = .ok (.if_icmp .ne 54, 3) := by decide +kernel
theorem dX12_earlyOf_37 : decode cX12_earlyOf 37 = .ok (.aload_n 0, 1) := by decide +kernel
theorem dX12_earlyOf_38 : decode cX12_earlyOf 38 = .ok (.getfield 113, 3) := by decide +kernel
theorem dX12_earlyOf_41 : decode cX12_earlyOf 41 = .ok (.iload 6, 2) := by decide +kernel
theorem dX12_earlyOf_43 : decode cX12_earlyOf 43 = .ok (.iaload, 1) := by decide +kernel
theorem dX12_earlyOf_44 : decode cX12_earlyOf 44 = .ok (.bipush 24, 2) := by decide +kernel
theorem dX12_earlyOf_46 : decode cX12_earlyOf 46 = .ok (.irem, 1) := by decide +kernel
theorem dX12_earlyOf_47 : decode cX12_earlyOf 47 = .ok (.bipush 6, 2) := by decide +kernel
theorem dX12_earlyOf_49 : decode cX12_earlyOf 49 = .ok (.bipush 13, 2) := by decide +kernel
theorem dX12_earlyOf_51 : decode cX12_earlyOf 51 = .ok (.invokestatic 196, 3) := by decide +kernel
theorem dX12_earlyOf_54 : decode cX12_earlyOf 54 = .ok (.ifCond .eq 34, 3) := by decide +kernel
theorem dX12_earlyOf_57 : decode cX12_earlyOf 57 = .ok (.aload_n 0, 1) := by decide +kernel
theorem dX12_earlyOf_58 : decode cX12_earlyOf 58 = .ok (.getfield 113, 3) := by decide +kernel
theorem dX12_earlyOf_61 : decode cX12_earlyOf 61 = .ok (.iload 6, 2) := by decide +kernel
theorem dX12_earlyOf_63 : decode cX12_earlyOf 63 = .ok (.iaload, 1) := by decide +kernel
theorem dX12_earlyOf_64 : decode cX12_earlyOf 64 = .ok (.bipush 24, 2) := by decide +kernel
theorem dX12_earlyOf_66 : decode cX12_earlyOf 66 = .ok (.idiv, 1) := by decide +kernel
theorem dX12_earlyOf_67 : decode cX12_earlyOf 67 = .ok (.iload_n 3, 1) := by decide +kernel
theorem dX12_earlyOf_68 : decode cX12_earlyOf 68 = .ok (.iload 4, 2) := by decide +kernel
theorem dX12_earlyOf_70 : decode cX12_earlyOf 70 = .ok (.invokestatic 196, 3) := by decide +kernel
theorem dX12_earlyOf_73 : decode cX12_earlyOf 73 = .ok (.ifCond .eq 15, 3) := by decide +kernel
theorem dX12_earlyOf_76 : decode cX12_earlyOf 76 = .ok (.iload 5, 2) := by decide +kernel
theorem dX12_earlyOf_78 : decode cX12_earlyOf 78 = .ok (.aload_n 0, 1) := by decide +kernel
theorem dX12_earlyOf_79 : decode cX12_earlyOf 79 = .ok (.getfield 122, 3) := by decide +kernel
theorem dX12_earlyOf_82 : decode cX12_earlyOf 82 = .ok (.iload 6, 2) := by decide +kernel
theorem dX12_earlyOf_84 : decode cX12_earlyOf 84 = .ok (.iaload, 1) := by decide +kernel
theorem dX12_earlyOf_85 : decode cX12_earlyOf 85 = .ok (.iadd, 1) := by decide +kernel
theorem dX12_earlyOf_86 : decode cX12_earlyOf 86 = .ok (.istore 5, 2) := by decide +kernel
theorem dX12_earlyOf_88 : decode cX12_earlyOf 88 = .ok (.iinc 6 1, 3) := by decide +kernel
theorem dX12_earlyOf_91 : decode cX12_earlyOf 91 = .ok (.goto (-85), 3) := by decide +kernel
theorem dX12_earlyOf_94 : decode cX12_earlyOf 94 = .ok (.iload 5, 2) := by decide +kernel
theorem dX12_earlyOf_96 : decode cX12_earlyOf 96 = .ok (.ireturn, 1) := by decide +kernel
theorem dX12_areDays_0 : decode cX12_areDays 0 = .ok (.iload_n 0, 1) := by decide +kernel
theorem dX12_areDays_1 : decode cX12_areDays 1 = .ok (.invokestatic 220, 3) := by decide +kernel
theorem dX12_areDays_4 : decode cX12_areDays 4 = .ok (.ifCond .eq 18, 3) := by decide +kernel
theorem dX12_areDays_7 : decode cX12_areDays 7 = .ok (.iload_n 1, 1) := by decide +kernel
theorem dX12_areDays_8 : decode cX12_areDays 8 = .ok (.iload_n 0, 1) := by decide +kernel
theorem dX12_areDays_9 : decode cX12_areDays 9 = .ok (.sipush 1499, 3) := by decide +kernel
theorem dX12_areDays_12 : decode cX12_areDays 12 = .ok (.invokestatic 196, 3) := by decide +kernel
theorem dX12_areDays_15 : decode cX12_areDays 15 = .ok (.ifCond .eq 7, 3) := by decide +kernel
theorem dX12_areDays_18 : decode cX12_areDays 18 = .ok (.iconst 1, 1) := by decide +kernel
theorem dX12_areDays_19 : decode cX12_areDays 19 = .ok (.goto 4, 3) := by decide +kernel
theorem dX12_areDays_22 : decode cX12_areDays 22 = .ok (.iconst 0, 1) := by decide +kernel
theorem dX12_areDays_23 : decode cX12_areDays 23 = .ok (.ireturn, 1) := by decide +kernel
theorem dX12_early_0 : decode cX12_early 0 = .ok (.aload_n 0, 1) := by decide +kernel
theorem dX12_early_1 : decode cX12_early 1 = .ok (.iload_n 1, 1) := by decide +kernel
theorem dX12_early_2 : decode cX12_early 2 = .ok (.iload_n 2, 1) := by decide +kernel
theorem dX12_early_3 : decode cX12_early 3 = .ok (.invokevirtual 223, 3) := by decide +kernel
theorem dX12_early_6 : decode cX12_early 6 = .ok (.ifCond .eq 24, 3) := by decide +kernel
theorem dX12_early_9 : decode cX12_early 9 = .ok (.iload_n 3, 1) := by decide +kernel
theorem dX12_early_10 : decode cX12_early 10 = .ok (.iload 4, 2) := by decide +kernel
theorem dX12_early_12 : decode cX12_early 12 = .ok (.invokestatic 392, 3) := by decide +kernel
theorem dX12_early_15 : decode cX12_early 15 = .ok (.ifCond .eq 15, 3) := by decide +kernel
theorem dX12_early_18 : decode cX12_early 18 = .ok (.aload_n 0, 1) := by decide +kernel
theorem dX12_early_19 : decode cX12_early 19 = .ok (.iload_n 1, 1) := by decide +kernel
theorem dX12_early_20 : decode cX12_early 20 = .ok (.iload_n 2, 1) := by decide +kernel
theorem dX12_early_21 : decode cX12_early 21 = .ok (.iload_n 3, 1) := by decide +kernel
theorem dX12_early_22 : decode cX12_early 22 = .ok (.iload 4, 2) := by decide +kernel
theorem dX12_early_24 : decode cX12_early 24 = .ok (.invokevirtual 395, 3) := by decide +kernel
theorem dX12_early_27 : decode cX12_early 27 = .ok (.goto 4, 3) := by decide +kernel
theorem dX12_early_30 : decode cX12_early 30 = .ok (.iconst (-1), 1) := by decide +kernel
theorem dX12_early_31 : decode cX12_early 31 = .ok (.ireturn, 1) := by decide +kernel
theorem dX12_waiting_0 : decode cX12_waiting 0 = .ok (.aload_n 0, 1) := by decide +kernel
theorem dX12_waiting_1 : decode cX12_waiting 1 = .ok (.iload_n 1, 1) := by decide +kernel
theorem dX12_waiting_2 : decode cX12_waiting 2 = .ok (.invokevirtual 213, 3) := by decide +kernel
theorem dX12_waiting_5 : decode cX12_waiting 5 = .ok (.ifCond .eq 21, 3) := by decide +kernel
theorem dX12_waiting_8 : decode cX12_waiting 8 = .ok (.iload_n 2, 1) := by decide +kernel
theorem dX12_waiting_9 : decode cX12_waiting 9 = .ok (.iload_n 3, 1) := by decide +kernel
theorem dX12_waiting_10 : decode cX12_waiting 10 = .ok (.invokestatic 392, 3) := by decide +kernel
theorem dX12_waiting_13 : decode cX12_waiting 13 = .ok (.ifCond .eq 13, 3) := by decide +kernel
theorem dX12_waiting_16 : decode cX12_waiting 16 = .ok (.iload 4, 2) := by decide +kernel
theorem dX12_waiting_18 : decode cX12_waiting 18 = .ok (.iconst 0, 1) := by decide +kernel
theorem dX12_waiting_19 : decode cX12_waiting 19 = .ok (.iconst 1, 1) := by decide +kernel
theorem dX12_waiting_20 : decode cX12_waiting 20 = .ok (.invokestatic 196, 3) := by decide +kernel
theorem dX12_waiting_23 : decode cX12_waiting 23 = .ok (.ifCond .ne 6, 3) := by decide +kernel
theorem dX12_waiting_26 : decode cX12_waiting 26 = .ok (.ldc 244, 2) := by decide +kernel
theorem dX12_waiting_28 : decode cX12_waiting 28 = .ok (.ireturn, 1) := by decide +kernel
theorem dX12_waiting_29 : decode cX12_waiting 29 = .ok (.iconst 0, 1) := by decide +kernel
theorem dX12_waiting_30 : decode cX12_waiting 30 = .ok (.istore 5, 2) := by decide +kernel
theorem dX12_waiting_32 : decode cX12_waiting 32 = .ok (.iconst 0, 1) := by decide +kernel
theorem dX12_waiting_33 : decode cX12_waiting 33 = .ok (.istore 6, 2) := by decide +kernel
theorem dX12_waiting_35 : decode cX12_waiting 35 = .ok (.iconst 0, 1) := by decide +kernel
theorem dX12_waiting_36 : decode cX12_waiting 36 = .ok (.istore 7, 2) := by decide +kernel
theorem dX12_waiting_38 : decode cX12_waiting 38 = .ok (.iconst 0, 1) := by decide +kernel
theorem dX12_waiting_39 : decode cX12_waiting 39 = .ok (.istore 8, 2) := by decide +kernel
theorem dX12_waiting_41 : decode cX12_waiting 41 = .ok (.iconst 0, 1) := by decide +kernel
theorem dX12_waiting_42 : decode cX12_waiting 42 = .ok (.istore 9, 2) := by decide +kernel
theorem dX12_waiting_44 : decode cX12_waiting 44 = .ok (.iconst 0, 1) := by decide +kernel
theorem dX12_waiting_45 : decode cX12_waiting 45 = .ok (.istore 10, 2) := by decide +kernel
theorem dX12_waiting_47 : decode cX12_waiting 47 = .ok (.iload 10, 2) := by decide +kernel
theorem dX12_waiting_49 : decode cX12_waiting 49 = .ok (.aload_n 0, 1) := by decide +kernel
theorem dX12_waiting_50 : decode cX12_waiting 50 = .ok (.getfield 203, 3) := by decide +kernel
theorem dX12_waiting_53 : decode cX12_waiting 53 = .ok (.if_icmp .ge 100, 3) := by decide +kernel
theorem dX12_waiting_56 : decode cX12_waiting 56 = .ok (.aload_n 0, 1) := by decide +kernel
theorem dX12_waiting_57 : decode cX12_waiting 57 = .ok (.getfield 169, 3) := by decide +kernel
theorem dX12_waiting_60 : decode cX12_waiting 60 = .ok (.iload 10, 2) := by decide +kernel
theorem dX12_waiting_62 : decode cX12_waiting 62 = .ok (.iaload, 1) := by decide +kernel
theorem dX12_waiting_63 : decode cX12_waiting 63 = .ok (.ifCond .ge 6, 3) := by decide +kernel
theorem dX12_waiting_66 : decode cX12_waiting 66 = .ok (.goto 81, 3) := by decide +kernel
theorem dX12_waiting_69 : decode cX12_waiting 69 = .ok (.iload 5, 2) := by decide +kernel
theorem dX12_waiting_71 : decode cX12_waiting 71 = .ok (.bipush 10, 2) := by decide +kernel
theorem dX12_waiting_73 : decode cX12_waiting 73 = .ok (.if_icmp .ge 19, 3) := by decide +kernel
theorem dX12_waiting_76 : decode cX12_waiting 76 = .ok (.aload_n 0, 1) := by decide +kernel
theorem dX12_waiting_77 : decode cX12_waiting 77 = .ok (.getfield 172, 3) := by decide +kernel
theorem dX12_waiting_80 : decode cX12_waiting 80 = .ok (.iload 5, 2) := by decide +kernel
theorem dX12_waiting_82 : decode cX12_waiting 82 = .ok (.aload_n 0, 1) := by decide +kernel
theorem dX12_waiting_83 : decode cX12_waiting 83 = .ok (.iload 10, 2) := by decide +kernel
theorem dX12_waiting_85 : decode cX12_waiting 85 = .ok (.iload_n 1, 1) := by decide +kernel
theorem dX12_waiting_86 : decode cX12_waiting 86 = .ok (.iload_n 2, 1) := by decide +kernel
theorem dX12_waiting_87 : decode cX12_waiting 87 = .ok (.iload_n 3, 1) := by decide +kernel
theorem dX12_waiting_88 : decode cX12_waiting 88 = .ok (.invokevirtual 395, 3) := by decide +kernel
theorem dX12_waiting_91 : decode cX12_waiting 91 = .ok (.iastore, 1) := by decide +kernel
theorem dX12_waiting_92 : decode cX12_waiting 92 = .ok (.iinc 5 1, 3) := by decide +kernel
theorem dX12_waiting_95 : decode cX12_waiting 95 = .ok (.iload 6, 2) := by decide +kernel
theorem dX12_waiting_97 : decode cX12_waiting 97 = .ok (.aload_n 0, 1) := by decide +kernel
theorem dX12_waiting_98 : decode cX12_waiting 98 = .ok (.getfield 169, 3) := by decide +kernel
theorem dX12_waiting_101 : decode cX12_waiting 101 = .ok (.iload 10, 2) := by decide +kernel
theorem dX12_waiting_103 : decode cX12_waiting 103 = .ok (.iaload, 1) := by decide +kernel
theorem dX12_waiting_104 : decode cX12_waiting 104 = .ok (.iadd, 1) := by decide +kernel
theorem dX12_waiting_105 : decode cX12_waiting 105 = .ok (.istore 6, 2) := by decide +kernel
theorem dX12_waiting_107 : decode cX12_waiting 107 = .ok (.aload_n 0, 1) := by decide +kernel
theorem dX12_waiting_108 : decode cX12_waiting 108 = .ok (.iload 10, 2) := by decide +kernel
theorem dX12_waiting_110 : decode cX12_waiting 110 = .ok (.iload_n 1, 1) := by decide +kernel
theorem dX12_waiting_111 : decode cX12_waiting 111 = .ok (.iload_n 2, 1) := by decide +kernel
theorem dX12_waiting_112 : decode cX12_waiting 112 = .ok (.iload_n 3, 1) := by decide +kernel
theorem dX12_waiting_113 : decode cX12_waiting 113 = .ok (.invokevirtual 395, 3) := by decide +kernel
theorem dX12_waiting_116 : decode cX12_waiting 116 = .ok (.istore 9, 2) := by decide +kernel
theorem dX12_waiting_118 : decode cX12_waiting 118 = .ok (.iload 8, 2) := by decide +kernel
theorem dX12_waiting_120 : decode cX12_waiting 120 = .ok (.iload 9, 2) := by decide +kernel
theorem dX12_waiting_122 : decode cX12_waiting 122 = .ok (.iadd, 1) := by decide +kernel
theorem dX12_waiting_123 : decode cX12_waiting 123 = .ok (.istore 8, 2) := by decide +kernel
theorem dX12_waiting_125 : decode cX12_waiting 125 = .ok (.iload 7, 2) := by decide +kernel
theorem dX12_waiting_127 : decode cX12_waiting 127 = .ok (.aload_n 0, 1) := by decide +kernel
theorem dX12_waiting_128 : decode cX12_waiting 128 = .ok (.getfield 169, 3) := by decide +kernel
theorem dX12_waiting_131 : decode cX12_waiting 131 = .ok (.iload 10, 2) := by decide +kernel
theorem dX12_waiting_133 : decode cX12_waiting 133 = .ok (.iaload, 1) := by decide +kernel
theorem dX12_waiting_134 : decode cX12_waiting 134 = .ok (.iconst 1, 1) := by decide +kernel
theorem dX12_waiting_135 : decode cX12_waiting 135 = .ok (.if_icmp .ne 8, 3) := by decide +kernel
theorem dX12_waiting_138 : decode cX12_waiting 138 = .ok (.iload 9, 2) := by decide +kernel
theorem dX12_waiting_140 : decode cX12_waiting 140 = .ok (.goto 4, 3) := by decide +kernel
theorem dX12_waiting_143 : decode cX12_waiting 143 = .ok (.iconst 0, 1) := by decide +kernel
theorem dX12_waiting_144 : decode cX12_waiting 144 = .ok (.iadd, 1) := by decide +kernel
theorem dX12_waiting_145 : decode cX12_waiting 145 = .ok (.istore 7, 2) := by decide +kernel
theorem dX12_waiting_147 : decode cX12_waiting 147 = .ok (.iinc 10 1, 3) := by decide +kernel
theorem dX12_waiting_150 : decode cX12_waiting 150 = .ok (.goto (-103), 3) := by decide +kernel
theorem dX12_waiting_153 : decode cX12_waiting 153 = .ok (.iload 6, 2) := by decide +kernel
theorem dX12_waiting_155 : decode cX12_waiting 155 = .ok (.ifCond .eq 10, 3) := by decide +kernel
theorem dX12_waiting_158 : decode cX12_waiting 158 = .ok (.iload 6, 2) := by decide +kernel
theorem dX12_waiting_160 : decode cX12_waiting 160 = .ok (.iload 5, 2) := by decide +kernel
theorem dX12_waiting_162 : decode cX12_waiting 162 = .ok (.if_icmp .ne 7, 3) := by decide +kernel
theorem dX12_waiting_165 : decode cX12_waiting 165 = .ok (.ldc_w 399, 3) := by decide +kernel
theorem dX12_waiting_168 : decode cX12_waiting 168 = .ok (.ireturn, 1) := by decide +kernel
theorem dX12_waiting_169 : decode cX12_waiting 169 = .ok (.iload 5, 2) := by decide +kernel
theorem dX12_waiting_171 : decode cX12_waiting 171 = .ok (.bipush 10, 2) := by decide +kernel
theorem dX12_waiting_173 : decode cX12_waiting 173 = .ok (.if_icmp .le 7, 3) := by decide +kernel
theorem dX12_waiting_176 : decode cX12_waiting 176 = .ok (.ldc_w 400, 3) := by decide +kernel
theorem dX12_waiting_179 : decode cX12_waiting 179 = .ok (.ireturn, 1) := by decide +kernel
theorem dX12_waiting_180 : decode cX12_waiting 180 = .ok (.iload 5, 2) := by decide +kernel
theorem dX12_waiting_182 : decode cX12_waiting 182 = .ok (.iload 6, 2) := by decide +kernel
theorem dX12_waiting_184 : decode cX12_waiting 184 = .ok (.isub, 1) := by decide +kernel
theorem dX12_waiting_185 : decode cX12_waiting 185 = .ok (.istore 10, 2) := by decide +kernel
theorem dX12_waiting_187 : decode cX12_waiting 187 = .ok (.iload 4, 2) := by decide +kernel
theorem dX12_waiting_189 : decode cX12_waiting 189 = .ok (.ifCond .ne 35, 3) := by decide +kernel
theorem dX12_waiting_192 : decode cX12_waiting 192 = .ok (.ldc2_w 401, 3) := by decide +kernel
theorem dX12_waiting_195 : decode cX12_waiting 195 = .ok (.iload 8, 2) := by decide +kernel
theorem dX12_waiting_197 : decode cX12_waiting 197 = .ok (.iload 7, 2) := by decide +kernel
theorem dX12_waiting_199 : decode cX12_waiting 199 = .ok (.isub, 1) := by decide +kernel
theorem dX12_waiting_200 : decode cX12_waiting 200 = .ok (.i2l, 1) := by decide +kernel
theorem dX12_waiting_201 : decode cX12_waiting 201 = .ok (.iload 6, 2) := by decide +kernel
theorem dX12_waiting_203 : decode cX12_waiting 203 = .ok (.i2l, 1) := by decide +kernel
theorem dX12_waiting_204 : decode cX12_waiting 204 = .ok (.lmul, 1) := by decide +kernel
theorem dX12_waiting_205 : decode cX12_waiting 205 = .ok (.iload 7, 2) := by decide +kernel
theorem dX12_waiting_207 : decode cX12_waiting 207 = .ok (.i2l, 1) := by decide +kernel
theorem dX12_waiting_208 : decode cX12_waiting 208 = .ok (.iload 10, 2) := by decide +kernel
theorem dX12_waiting_210 : decode cX12_waiting 210 = .ok (.i2l, 1) := by decide +kernel
theorem dX12_waiting_211 : decode cX12_waiting 211 = .ok (.lmul, 1) := by decide +kernel
theorem dX12_waiting_212 : decode cX12_waiting 212 = .ok (.lsub, 1) := by decide +kernel
theorem dX12_waiting_213 : decode cX12_waiting 213 = .ok (.lmul, 1) := by decide +kernel
theorem dX12_waiting_214 : decode cX12_waiting 214 = .ok (.iload 10, 2) := by decide +kernel
theorem dX12_waiting_216 : decode cX12_waiting 216 = .ok (.i2l, 1) := by decide +kernel
theorem dX12_waiting_217 : decode cX12_waiting 217 = .ok (.iload 6, 2) := by decide +kernel
theorem dX12_waiting_219 : decode cX12_waiting 219 = .ok (.i2l, 1) := by decide +kernel
theorem dX12_waiting_220 : decode cX12_waiting 220 = .ok (.lmul, 1) := by decide +kernel
theorem dX12_waiting_221 : decode cX12_waiting 221 = .ok (.ldiv, 1) := by decide +kernel
theorem dX12_waiting_222 : decode cX12_waiting 222 = .ok (.l2i, 1) := by decide +kernel
theorem dX12_waiting_223 : decode cX12_waiting 223 = .ok (.ireturn, 1) := by decide +kernel
theorem dX12_waiting_224 : decode cX12_waiting 224 = .ok (.iconst 0, 1) := by decide +kernel
theorem dX12_waiting_225 : decode cX12_waiting 225 = .ok (.istore 11, 2) := by decide +kernel
theorem dX12_waiting_227 : decode cX12_waiting 227 = .ok (.iconst 0, 1) := by decide +kernel
theorem dX12_waiting_228 : decode cX12_waiting 228 = .ok (.istore 12, 2) := by decide +kernel
theorem dX12_waiting_230 : decode cX12_waiting 230 = .ok (.iconst 0, 1) := by decide +kernel
theorem dX12_waiting_231 : decode cX12_waiting 231 = .ok (.istore 13, 2) := by decide +kernel
theorem dX12_waiting_233 : decode cX12_waiting 233 = .ok (.iload 13, 2) := by decide +kernel
theorem dX12_waiting_235 : decode cX12_waiting 235 = .ok (.iconst 1, 1) := by decide +kernel
theorem dX12_waiting_236 : decode cX12_waiting 236 = .ok (.iload 5, 2) := by decide +kernel
theorem dX12_waiting_238 : decode cX12_waiting 238 = .ok (.ishl, 1) := by decide +kernel
theorem dX12_waiting_239 : decode cX12_waiting 239 = .ok (.if_icmp .ge 89, 3) := by decide +kernel
theorem dX12_waiting_242 : decode cX12_waiting 242 = .ok (.iconst 0, 1) := by decide +kernel
theorem dX12_waiting_243 : decode cX12_waiting 243 = .ok (.istore 14, 2) := by decide +kernel
theorem dX12_waiting_245 : decode cX12_waiting 245 = .ok (.iconst 0, 1) := by decide +kernel
theorem dX12_waiting_246 : decode cX12_waiting 246 = .ok (.istore 15, 2) := by decide +kernel
theorem dX12_waiting_248 : decode cX12_waiting 248 = .ok (.iconst 0, 1) := by decide +kernel
theorem dX12_waiting_249 : decode cX12_waiting 249 = .ok (.istore 16, 2) := by decide +kernel
theorem dX12_waiting_251 : decode cX12_waiting 251 = .ok (.iload 16, 2) := by decide +kernel
theorem dX12_waiting_253 : decode cX12_waiting 253 = .ok (.iload 5, 2) := by decide +kernel
theorem dX12_waiting_255 : decode cX12_waiting 255 = .ok (.if_icmp .ge 37, 3) := by decide +kernel
theorem dX12_waiting_258 : decode cX12_waiting 258 = .ok (.iload 13, 2) := by decide +kernel
theorem dX12_waiting_260 : decode cX12_waiting 260 = .ok (.iload 16, 2) := by decide +kernel
theorem dX12_waiting_262 : decode cX12_waiting 262 = .ok (.ishr, 1) := by decide +kernel
theorem dX12_waiting_263 : decode cX12_waiting 263 = .ok (.iconst 1, 1) := by decide +kernel
theorem dX12_waiting_264 : decode cX12_waiting 264 = .ok (.iand, 1) := by decide +kernel
theorem dX12_waiting_265 : decode cX12_waiting 265 = .ok (.ifCond .ne 6, 3) := by decide +kernel
theorem dX12_waiting_268 : decode cX12_waiting 268 = .ok (.goto 18, 3) := by decide +kernel
theorem dX12_waiting_271 : decode cX12_waiting 271 = .ok (.iinc 14 1, 3) := by decide +kernel
theorem dX12_waiting_274 : decode cX12_waiting 274 = .ok (.iload 15, 2) := by decide +kernel
theorem dX12_waiting_276 : decode cX12_waiting 276 = .ok (.aload_n 0, 1) := by decide +kernel
theorem dX12_waiting_277 : decode cX12_waiting 277 = .ok (.getfield 172, 3) := by decide +kernel
theorem dX12_waiting_280 : decode cX12_waiting 280 = .ok (.iload 16, 2) := by decide +kernel
theorem dX12_waiting_282 : decode cX12_waiting 282 = .ok (.iaload, 1) := by decide +kernel
theorem dX12_waiting_283 : decode cX12_waiting 283 = .ok (.iadd, 1) := by decide +kernel
theorem dX12_waiting_284 : decode cX12_waiting 284 = .ok (.istore 15, 2) := by decide +kernel
theorem dX12_waiting_286 : decode cX12_waiting 286 = .ok (.iinc 16 1, 3) := by decide +kernel
theorem dX12_waiting_289 : decode cX12_waiting 289 = .ok (.goto (-38), 3) := by decide +kernel
theorem dX12_waiting_292 : decode cX12_waiting 292 = .ok (.iload 14, 2) := by decide +kernel
theorem dX12_waiting_294 : decode cX12_waiting 294 = .ok (.iload 6, 2) := by decide +kernel
theorem dX12_waiting_296 : decode cX12_waiting 296 = .ok (.if_icmp .eq 6, 3) := by decide +kernel
theorem dX12_waiting_299 : decode cX12_waiting 299 = .ok (.goto 23, 3) := by decide +kernel
theorem dX12_waiting_302 : decode cX12_waiting 302 = .ok (.iinc 11 1, 3) := by decide +kernel
theorem dX12_waiting_305 : decode cX12_waiting 305 = .ok (.iload 12, 2) := by decide +kernel
theorem dX12_waiting_307 : decode cX12_waiting 307 = .ok (.iload 15, 2) := by decide +kernel
theorem dX12_waiting_309 : decode cX12_waiting 309 = .ok (.iload 7, 2) := by decide +kernel
theorem dX12_waiting_311 : decode cX12_waiting 311 = .ok (.if_icmp .gt 7, 3) := by decide +kernel
theorem dX12_waiting_314 : decode cX12_waiting 314 = .ok (.iconst 1, 1) := by decide +kernel
theorem dX12_waiting_315 : decode cX12_waiting 315 = .ok (.goto 4, 3) := by decide +kernel
theorem dX12_waiting_318 : decode cX12_waiting 318 = .ok (.iconst 0, 1) := by decide +kernel
theorem dX12_waiting_319 : decode cX12_waiting 319 = .ok (.iadd, 1) := by decide +kernel
theorem dX12_waiting_320 : decode cX12_waiting 320 = .ok (.istore 12, 2) := by decide +kernel
theorem dX12_waiting_322 : decode cX12_waiting 322 = .ok (.iinc 13 1, 3) := by decide +kernel
theorem dX12_waiting_325 : decode cX12_waiting 325 = .ok (.goto (-92), 3) := by decide +kernel
theorem dX12_waiting_328 : decode cX12_waiting 328 = .ok (.sipush 10000, 3) := by decide +kernel
theorem dX12_waiting_331 : decode cX12_waiting 331 = .ok (.iload 12, 2) := by decide +kernel
theorem dX12_waiting_333 : decode cX12_waiting 333 = .ok (.imul, 1) := by decide +kernel
theorem dX12_waiting_334 : decode cX12_waiting 334 = .ok (.iload 11, 2) := by decide +kernel
theorem dX12_waiting_336 : decode cX12_waiting 336 = .ok (.iadd, 1) := by decide +kernel
theorem dX12_waiting_337 : decode cX12_waiting 337 = .ok (.iconst 1, 1) := by decide +kernel
theorem dX12_waiting_338 : decode cX12_waiting 338 = .ok (.isub, 1) := by decide +kernel
theorem dX12_waiting_339 : decode cX12_waiting 339 = .ok (.iload 11, 2) := by decide +kernel
theorem dX12_waiting_341 : decode cX12_waiting 341 = .ok (.idiv, 1) := by decide +kernel
theorem dX12_waiting_342 : decode cX12_waiting 342 = .ok (.ireturn, 1) := by decide +kernel
theorem dX12_kitchen_0 : decode cX12_kitchen 0 = .ok (.iload_n 1, 1) := by decide +kernel
theorem dX12_kitchen_1 : decode cX12_kitchen 1 = .ok (.iconst 0, 1) := by decide +kernel
theorem dX12_kitchen_2 : decode cX12_kitchen 2 = .ok (.sipush 9999, 3) := by decide +kernel
theorem dX12_kitchen_5 : decode cX12_kitchen 5 = .ok (.invokestatic 196, 3) := by decide +kernel
theorem dX12_kitchen_8 : decode cX12_kitchen 8 = .ok (.ifCond .eq 13, 3) := by decide +kernel
theorem dX12_kitchen_11 : decode cX12_kitchen 11 = .ok (.iload_n 2, 1) := by decide +kernel
theorem dX12_kitchen_12 : decode cX12_kitchen 12 = .ok (.iconst 0, 1) := by decide +kernel
theorem dX12_kitchen_13 : decode cX12_kitchen 13 = .ok (.bipush 23, 2) := by decide +kernel
theorem dX12_kitchen_15 : decode cX12_kitchen 15 = .ok (.invokestatic 196, 3) := by decide +kernel
theorem dX12_kitchen_18 : decode cX12_kitchen 18 = .ok (.ifCond .ne 5, 3) := by decide +kernel
theorem dX12_kitchen_21 : decode cX12_kitchen 21 = .ok (.iconst (-1), 1) := by decide +kernel
theorem dX12_kitchen_22 : decode cX12_kitchen 22 = .ok (.ireturn, 1) := by decide +kernel
theorem dX12_kitchen_23 : decode cX12_kitchen 23 = .ok (.aload_n 0, 1) := by decide +kernel
theorem dX12_kitchen_24 : decode cX12_kitchen 24 = .ok (.getfield 403, 3) := by decide +kernel
theorem dX12_kitchen_27 : decode cX12_kitchen 27 = .ok (.bipush 10, 2) := by decide +kernel
theorem dX12_kitchen_29 : decode cX12_kitchen 29 = .ok (.if_icmp .ne 6, 3) := by decide +kernel
theorem dX12_kitchen_32 : decode cX12_kitchen 32 = .ok (.bipush (-3), 2) := by decide +kernel
theorem dX12_kitchen_34 : decode cX12_kitchen 34 = .ok (.ireturn, 1) := by decide +kernel
theorem dX12_kitchen_35 : decode cX12_kitchen 35 = .ok (.aload_n 0, 1) := by decide +kernel
theorem dX12_kitchen_36 : decode cX12_kitchen 36 = .ok (.getfield 175, 3) := by decide +kernel
theorem dX12_kitchen_39 : decode cX12_kitchen 39 = .ok (.aload_n 0, 1) := by decide +kernel
theorem dX12_kitchen_40 : decode cX12_kitchen 40 = .ok (.getfield 403, 3) := by decide +kernel
theorem dX12_kitchen_43 : decode cX12_kitchen 43 = .ok (.iload_n 1, 1) := by decide +kernel
theorem dX12_kitchen_44 : decode cX12_kitchen 44 = .ok (.bipush 100, 2) := by decide +kernel
theorem dX12_kitchen_46 : decode cX12_kitchen 46 = .ok (.idiv, 1) := by decide +kernel
theorem dX12_kitchen_47 : decode cX12_kitchen 47 = .ok (.iastore, 1) := by decide +kernel
theorem dX12_kitchen_48 : decode cX12_kitchen 48 = .ok (.aload_n 0, 1) := by decide +kernel
theorem dX12_kitchen_49 : decode cX12_kitchen 49 = .ok (.getfield 178, 3) := by decide +kernel
theorem dX12_kitchen_52 : decode cX12_kitchen 52 = .ok (.aload_n 0, 1) := by decide +kernel
theorem dX12_kitchen_53 : decode cX12_kitchen 53 = .ok (.getfield 403, 3) := by decide +kernel
theorem dX12_kitchen_56 : decode cX12_kitchen 56 = .ok (.iload_n 1, 1) := by decide +kernel
theorem dX12_kitchen_57 : decode cX12_kitchen 57 = .ok (.bipush 100, 2) := by decide +kernel
theorem dX12_kitchen_59 : decode cX12_kitchen 59 = .ok (.irem, 1) := by decide +kernel
theorem dX12_kitchen_60 : decode cX12_kitchen 60 = .ok (.iastore, 1) := by decide +kernel
theorem dX12_kitchen_61 : decode cX12_kitchen 61 = .ok (.aload_n 0, 1) := by decide +kernel
theorem dX12_kitchen_62 : decode cX12_kitchen 62 = .ok (.getfield 181, 3) := by decide +kernel
theorem dX12_kitchen_65 : decode cX12_kitchen 65 = .ok (.aload_n 0, 1) := by decide +kernel
theorem dX12_kitchen_66 : decode cX12_kitchen 66 = .ok (.getfield 403, 3) := by decide +kernel
theorem dX12_kitchen_69 : decode cX12_kitchen 69 = .ok (.iload_n 2, 1) := by decide +kernel
theorem dX12_kitchen_70 : decode cX12_kitchen 70 = .ok (.iastore, 1) := by decide +kernel
theorem dX12_kitchen_71 : decode cX12_kitchen 71 = .ok (.aload_n 0, 1) := by decide +kernel
theorem dX12_kitchen_72 : decode cX12_kitchen 72 = .ok (.dup, 1) := by decide +kernel
theorem dX12_kitchen_73 : decode cX12_kitchen 73 = .ok (.getfield 403, 3) := by decide +kernel
theorem dX12_kitchen_76 : decode cX12_kitchen 76 = .ok (.iconst 1, 1) := by decide +kernel
theorem dX12_kitchen_77 : decode cX12_kitchen 77 = .ok (.iadd, 1) := by decide +kernel
theorem dX12_kitchen_78 : decode cX12_kitchen 78 = .ok (.putfield 403, 3) := by decide +kernel
theorem dX12_kitchen_81 : decode cX12_kitchen 81 = .ok (.aload_n 0, 1) := by decide +kernel
theorem dX12_kitchen_82 : decode cX12_kitchen 82 = .ok (.getfield 403, 3) := by decide +kernel
theorem dX12_kitchen_85 : decode cX12_kitchen 85 = .ok (.iconst 1, 1) := by decide +kernel
theorem dX12_kitchen_86 : decode cX12_kitchen 86 = .ok (.isub, 1) := by decide +kernel
theorem dX12_kitchen_87 : decode cX12_kitchen 87 = .ok (.ireturn, 1) := by decide +kernel
theorem dX12_gift_0 : decode cX12_gift 0 = .ok (.aload_n 0, 1) := by decide +kernel
theorem dX12_gift_1 : decode cX12_gift 1 = .ok (.iload_n 1, 1) := by decide +kernel
theorem dX12_gift_2 : decode cX12_gift 2 = .ok (.iload_n 2, 1) := by decide +kernel
theorem dX12_gift_3 : decode cX12_gift 3 = .ok (.invokevirtual 223, 3) := by decide +kernel
theorem dX12_gift_6 : decode cX12_gift 6 = .ok (.ifCond .eq 29, 3) := by decide +kernel
theorem dX12_gift_9 : decode cX12_gift 9 = .ok (.iload_n 3, 1) := by decide +kernel
theorem dX12_gift_10 : decode cX12_gift 10 = .ok (.iconst 0, 1) := by decide +kernel
theorem dX12_gift_11 : decode cX12_gift 11 = .ok (.aload_n 0, 1) := by decide +kernel
theorem dX12_gift_12 : decode cX12_gift 12 = .ok (.getfield 403, 3) := by decide +kernel
theorem dX12_gift_15 : decode cX12_gift 15 = .ok (.iconst 1, 1) := by decide +kernel
theorem dX12_gift_16 : decode cX12_gift 16 = .ok (.isub, 1) := by decide +kernel
theorem dX12_gift_17 : decode cX12_gift 17 = .ok (.invokestatic 196, 3) := by decide +kernel
theorem dX12_gift_20 : decode cX12_gift 20 = .ok (.ifCond .eq 15, 3) := by decide +kernel
theorem dX12_gift_23 : decode cX12_gift 23 = .ok (.iload 4, 2) := by decide +kernel
theorem dX12_gift_25 : decode cX12_gift 25 = .ok (.iconst 1, 1) := by decide +kernel
theorem dX12_gift_26 : decode cX12_gift 26 = .ok (.sipush 999, 3) := by decide +kernel
theorem dX12_gift_29 : decode cX12_gift 29 = .ok (.invokestatic 196, 3) := by decide +kernel
theorem dX12_gift_32 : decode cX12_gift 32 = .ok (.ifCond .ne 5, 3) := by decide +kernel
theorem dX12_gift_35 : decode cX12_gift 35 = .ok (.iconst (-1), 1) := by decide +kernel
theorem dX12_gift_36 : decode cX12_gift 36 = .ok (.ireturn, 1) := by decide +kernel
theorem dX12_gift_37 : decode cX12_gift 37 = .ok (.aload_n 0, 1) := by decide +kernel
theorem dX12_gift_38 : decode cX12_gift 38 = .ok (.getfield 7, 3) := by decide +kernel
theorem dX12_gift_41 : decode cX12_gift 41 = .ok (.iload_n 1, 1) := by decide +kernel
theorem dX12_gift_42 : decode cX12_gift 42 = .ok (.iaload, 1) := by decide +kernel
theorem dX12_gift_43 : decode cX12_gift 43 = .ok (.aload_n 0, 1) := by decide +kernel
theorem dX12_gift_44 : decode cX12_gift 44 = .ok (.getfield 175, 3) := by decide +kernel
theorem dX12_gift_47 : decode cX12_gift 47 = .ok (.iload_n 3, 1) := by decide +kernel
theorem dX12_gift_48 : decode cX12_gift 48 = .ok (.iaload, 1) := by decide +kernel
theorem dX12_gift_49 : decode cX12_gift 49 = .ok (.invokestatic 371, 3) := by decide +kernel
theorem dX12_gift_52 : decode cX12_gift 52 = .ok (.aload_n 0, 1) := by decide +kernel
theorem dX12_gift_53 : decode cX12_gift 53 = .ok (.getfield 13, 3) := by decide +kernel
theorem dX12_gift_56 : decode cX12_gift 56 = .ok (.iload_n 1, 1) := by decide +kernel
theorem dX12_gift_57 : decode cX12_gift 57 = .ok (.iaload, 1) := by decide +kernel
theorem dX12_gift_58 : decode cX12_gift 58 = .ok (.aload_n 0, 1) := by decide +kernel
theorem dX12_gift_59 : decode cX12_gift 59 = .ok (.getfield 178, 3) := by decide +kernel
theorem dX12_gift_62 : decode cX12_gift 62 = .ok (.iload_n 3, 1) := by decide +kernel
theorem dX12_gift_63 : decode cX12_gift 63 = .ok (.iaload, 1) := by decide +kernel
theorem dX12_gift_64 : decode cX12_gift 64 = .ok (.invokestatic 371, 3) := by decide +kernel
theorem dX12_gift_67 : decode cX12_gift 67 = .ok (.iadd, 1) := by decide +kernel
theorem dX12_gift_68 : decode cX12_gift 68 = .ok (.bipush 9, 2) := by decide +kernel
theorem dX12_gift_70 : decode cX12_gift 70 = .ok (.iadd, 1) := by decide +kernel
theorem dX12_gift_71 : decode cX12_gift 71 = .ok (.bipush 10, 2) := by decide +kernel
theorem dX12_gift_73 : decode cX12_gift 73 = .ok (.idiv, 1) := by decide +kernel
theorem dX12_gift_74 : decode cX12_gift 74 = .ok (.istore 5, 2) := by decide +kernel
theorem dX12_gift_76 : decode cX12_gift 76 = .ok (.aload_n 0, 1) := by decide +kernel
theorem dX12_gift_77 : decode cX12_gift 77 = .ok (.invokevirtual 315, 3) := by decide +kernel
theorem dX12_gift_80 : decode cX12_gift 80 = .ok (.iload 5, 2) := by decide +kernel
theorem dX12_gift_82 : decode cX12_gift 82 = .ok (.iadd, 1) := by decide +kernel
theorem dX12_gift_83 : decode cX12_gift 83 = .ok (.aload_n 0, 1) := by decide +kernel
theorem dX12_gift_84 : decode cX12_gift 84 = .ok (.getfield 181, 3) := by decide +kernel
theorem dX12_gift_87 : decode cX12_gift 87 = .ok (.iload_n 3, 1) := by decide +kernel
theorem dX12_gift_88 : decode cX12_gift 88 = .ok (.iaload, 1) := by decide +kernel
theorem dX12_gift_89 : decode cX12_gift 89 = .ok (.if_icmp .gt 19, 3) := by decide +kernel
theorem dX12_gift_92 : decode cX12_gift 92 = .ok (.aload_n 0, 1) := by decide +kernel
theorem dX12_gift_93 : decode cX12_gift 93 = .ok (.getfield 28, 3) := by decide +kernel
theorem dX12_gift_96 : decode cX12_gift 96 = .ok (.iload_n 2, 1) := by decide +kernel
theorem dX12_gift_97 : decode cX12_gift 97 = .ok (.iaload, 1) := by decide +kernel
theorem dX12_gift_98 : decode cX12_gift 98 = .ok (.iconst 1, 1) := by decide +kernel
theorem dX12_gift_99 : decode cX12_gift 99 = .ok (.if_icmp .ne 12, 3) := by decide +kernel
theorem dX12_gift_102 : decode cX12_gift 102 = .ok (.iload 5, 2) := by decide +kernel
theorem dX12_gift_104 : decode cX12_gift 104 = .ok (.iconst 2, 1) := by decide +kernel
theorem dX12_gift_105 : decode cX12_gift 105 = .ok (.if_icmp .le 6, 3) := by decide +kernel
theorem dX12_gift_108 : decode cX12_gift 108 = .ok (.bipush (-2), 2) := by decide +kernel
theorem dX12_gift_110 : decode cX12_gift 110 = .ok (.ireturn, 1) := by decide +kernel
theorem dX12_gift_111 : decode cX12_gift 111 = .ok (.iload 4, 2) := by decide +kernel
theorem dX12_gift_113 : decode cX12_gift 113 = .ok (.istore 6, 2) := by decide +kernel
theorem dX12_gift_115 : decode cX12_gift 115 = .ok (.aload_n 0, 1) := by decide +kernel
theorem dX12_gift_116 : decode cX12_gift 116 = .ok (.iload_n 1, 1) := by decide +kernel
theorem dX12_gift_117 : decode cX12_gift 117 = .ok (.iload_n 2, 1) := by decide +kernel
theorem dX12_gift_118 : decode cX12_gift 118 = .ok (.iconst 1, 1) := by decide +kernel
theorem dX12_gift_119 : decode cX12_gift 119 = .ok (.invokevirtual 347, 3) := by decide +kernel
theorem dX12_gift_122 : decode cX12_gift 122 = .ok (.istore 7, 2) := by decide +kernel
theorem dX12_gift_124 : decode cX12_gift 124 = .ok (.iload 6, 2) := by decide +kernel
theorem dX12_gift_126 : decode cX12_gift 126 = .ok (.ifCond .le 63, 3) := by decide +kernel
theorem dX12_gift_129 : decode cX12_gift 129 = .ok (.iload 7, 2) := by decide +kernel
theorem dX12_gift_131 : decode cX12_gift 131 = .ok (.ifCond .lt 58, 3) := by decide +kernel
theorem dX12_gift_134 : decode cX12_gift 134 = .ok (.aload_n 0, 1) := by decide +kernel
theorem dX12_gift_135 : decode cX12_gift 135 = .ok (.iload 7, 2) := by decide +kernel
theorem dX12_gift_137 : decode cX12_gift 137 = .ok (.invokevirtual 245, 3) := by decide +kernel
theorem dX12_gift_140 : decode cX12_gift 140 = .ok (.iload 6, 2) := by decide +kernel
theorem dX12_gift_142 : decode cX12_gift 142 = .ok (.if_icmp .ge 12, 3) := by decide +kernel
theorem dX12_gift_145 : decode cX12_gift 145 = .ok (.aload_n 0, 1) := by decide +kernel
theorem dX12_gift_146 : decode cX12_gift 146 = .ok (.iload 7, 2) := by decide +kernel
theorem dX12_gift_148 : decode cX12_gift 148 = .ok (.invokevirtual 245, 3) := by decide +kernel
theorem dX12_gift_151 : decode cX12_gift 151 = .ok (.goto 5, 3) := by decide +kernel
theorem dX12_gift_154 : decode cX12_gift 154 = .ok (.iload 6, 2) := by decide +kernel
theorem dX12_gift_156 : decode cX12_gift 156 = .ok (.istore 8, 2) := by decide +kernel
theorem dX12_gift_158 : decode cX12_gift 158 = .ok (.aload_n 0, 1) := by decide +kernel
theorem dX12_gift_159 : decode cX12_gift 159 = .ok (.getfield 67, 3) := by decide +kernel
theorem dX12_gift_162 : decode cX12_gift 162 = .ok (.iload 7, 2) := by decide +kernel
theorem dX12_gift_164 : decode cX12_gift 164 = .ok (.dup2, 1) := by decide +kernel
theorem dX12_gift_165 : decode cX12_gift 165 = .ok (.iaload, 1) := by decide +kernel
theorem dX12_gift_166 : decode cX12_gift 166 = .ok (.iload 8, 2) := by decide +kernel
theorem dX12_gift_168 : decode cX12_gift 168 = .ok (.iadd, 1) := by decide +kernel
theorem dX12_gift_169 : decode cX12_gift 169 = .ok (.iastore, 1) := by decide +kernel
theorem dX12_gift_170 : decode cX12_gift 170 = .ok (.iload 6, 2) := by decide +kernel
theorem dX12_gift_172 : decode cX12_gift 172 = .ok (.iload 8, 2) := by decide +kernel
theorem dX12_gift_174 : decode cX12_gift 174 = .ok (.isub, 1) := by decide +kernel
theorem dX12_gift_175 : decode cX12_gift 175 = .ok (.istore 6, 2) := by decide +kernel
theorem dX12_gift_177 : decode cX12_gift 177 = .ok (.aload_n 0, 1) := by decide +kernel
theorem dX12_gift_178 : decode cX12_gift 178 = .ok (.iload_n 1, 1) := by decide +kernel
theorem dX12_gift_179 : decode cX12_gift 179 = .ok (.iload_n 2, 1) := by decide +kernel
theorem dX12_gift_180 : decode cX12_gift 180 = .ok (.iconst 1, 1) := by decide +kernel
theorem dX12_gift_181 : decode cX12_gift 181 = .ok (.invokevirtual 347, 3) := by decide +kernel
theorem dX12_gift_184 : decode cX12_gift 184 = .ok (.istore 7, 2) := by decide +kernel
theorem dX12_gift_186 : decode cX12_gift 186 = .ok (.goto (-62), 3) := by decide +kernel
theorem dX12_gift_189 : decode cX12_gift 189 = .ok (.iload 6, 2) := by decide +kernel
theorem dX12_gift_191 : decode cX12_gift 191 = .ok (.iload 4, 2) := by decide +kernel
theorem dX12_gift_193 : decode cX12_gift 193 = .ok (.if_icmp .ne 8, 3) := by decide +kernel
theorem dX12_gift_196 : decode cX12_gift 196 = .ok (.bipush (-2), 2) := by decide +kernel
theorem dX12_gift_198 : decode cX12_gift 198 = .ok (.goto 8, 3) := by decide +kernel
theorem dX12_gift_201 : decode cX12_gift 201 = .ok (.iload 4, 2) := by decide +kernel
theorem dX12_gift_203 : decode cX12_gift 203 = .ok (.iload 6, 2) := by decide +kernel
theorem dX12_gift_205 : decode cX12_gift 205 = .ok (.isub, 1) := by decide +kernel
theorem dX12_gift_206 : decode cX12_gift 206 = .ok (.ireturn, 1) := by decide +kernel
theorem dX12_bin_0 : decode cX12_bin 0 = .ok (.aload_n 0, 1) := by decide +kernel
theorem dX12_bin_1 : decode cX12_bin 1 = .ok (.iload_n 1, 1) := by decide +kernel
theorem dX12_bin_2 : decode cX12_bin 2 = .ok (.invokevirtual 241, 3) := by decide +kernel
theorem dX12_bin_5 : decode cX12_bin 5 = .ok (.ifCond .eq 23, 3) := by decide +kernel
theorem dX12_bin_8 : decode cX12_bin 8 = .ok (.iload_n 2, 1) := by decide +kernel
theorem dX12_bin_9 : decode cX12_bin 9 = .ok (.iconst 1, 1) := by decide +kernel
theorem dX12_bin_10 : decode cX12_bin 10 = .ok (.sipush 999, 3) := by decide +kernel
theorem dX12_bin_13 : decode cX12_bin 13 = .ok (.invokestatic 196, 3) := by decide +kernel
theorem dX12_bin_16 : decode cX12_bin 16 = .ok (.ifCond .eq 12, 3) := by decide +kernel
theorem dX12_bin_19 : decode cX12_bin 19 = .ok (.iload_n 3, 1) := by decide +kernel
theorem dX12_bin_20 : decode cX12_bin 20 = .ok (.iconst 0, 1) := by decide +kernel
theorem dX12_bin_21 : decode cX12_bin 21 = .ok (.iconst 1, 1) := by decide +kernel
theorem dX12_bin_22 : decode cX12_bin 22 = .ok (.invokestatic 196, 3) := by decide +kernel
theorem dX12_bin_25 : decode cX12_bin 25 = .ok (.ifCond .ne 5, 3) := by decide +kernel
theorem dX12_bin_28 : decode cX12_bin 28 = .ok (.iconst (-1), 1) := by decide +kernel
theorem dX12_bin_29 : decode cX12_bin 29 = .ok (.ireturn, 1) := by decide +kernel
theorem dX12_bin_30 : decode cX12_bin 30 = .ok (.aload_n 0, 1) := by decide +kernel
theorem dX12_bin_31 : decode cX12_bin 31 = .ok (.iload_n 1, 1) := by decide +kernel
theorem dX12_bin_32 : decode cX12_bin 32 = .ok (.invokevirtual 245, 3) := by decide +kernel
theorem dX12_bin_35 : decode cX12_bin 35 = .ok (.iload_n 2, 1) := by decide +kernel
theorem dX12_bin_36 : decode cX12_bin 36 = .ok (.if_icmp .ge 6, 3) := by decide +kernel
theorem dX12_bin_39 : decode cX12_bin 39 = .ok (.bipush (-2), 2) := by decide +kernel
theorem dX12_bin_41 : decode cX12_bin 41 = .ok (.ireturn, 1) := by decide +kernel
theorem dX12_bin_42 : decode cX12_bin 42 = .ok (.iload_n 3, 1) := by decide +kernel
theorem dX12_bin_43 : decode cX12_bin 43 = .ok (.iconst 1, 1) := by decide +kernel
theorem dX12_bin_44 : decode cX12_bin 44 = .ok (.if_icmp .ne 16, 3) := by decide +kernel
theorem dX12_bin_47 : decode cX12_bin 47 = .ok (.aload_n 0, 1) := by decide +kernel
theorem dX12_bin_48 : decode cX12_bin 48 = .ok (.getfield 406, 3) := by decide +kernel
theorem dX12_bin_51 : decode cX12_bin 51 = .ok (.sipush 400, 3) := by decide +kernel
theorem dX12_bin_54 : decode cX12_bin 54 = .ok (.if_icmp .ne 6, 3) := by decide +kernel
theorem dX12_bin_57 : decode cX12_bin 57 = .ok (.bipush (-3), 2) := by decide +kernel
theorem dX12_bin_59 : decode cX12_bin 59 = .ok (.ireturn, 1) := by decide +kernel
theorem dX12_bin_60 : decode cX12_bin 60 = .ok (.aload_n 0, 1) := by decide +kernel
theorem dX12_bin_61 : decode cX12_bin 61 = .ok (.iload_n 1, 1) := by decide +kernel
theorem dX12_bin_62 : decode cX12_bin 62 = .ok (.iload_n 2, 1) := by decide +kernel
theorem dX12_bin_63 : decode cX12_bin 63 = .ok (.invokevirtual 334, 3) := by decide +kernel
theorem dX12_bin_66 : decode cX12_bin 66 = .ok (.iload_n 3, 1) := by decide +kernel
theorem dX12_bin_67 : decode cX12_bin 67 = .ok (.iconst 1, 1) := by decide +kernel
theorem dX12_bin_68 : decode cX12_bin 68 = .ok (.if_icmp .ne 56, 3) := by decide +kernel
theorem dX12_bin_71 : decode cX12_bin 71 = .ok (.aload_n 0, 1) := by decide +kernel
theorem dX12_bin_72 : decode cX12_bin 72 = .ok (.getfield 73, 3) := by decide +kernel
theorem dX12_bin_75 : decode cX12_bin 75 = .ok (.iload_n 1, 1) := by decide +kernel
theorem dX12_bin_76 : decode cX12_bin 76 = .ok (.dup2, 1) := by decide +kernel
theorem dX12_bin_77 : decode cX12_bin 77 = .ok (.iaload, 1) := by decide +kernel
theorem dX12_bin_78 : decode cX12_bin 78 = .ok (.iload_n 2, 1) := by decide +kernel
theorem dX12_bin_79 : decode cX12_bin 79 = .ok (.iadd, 1) := by decide +kernel
theorem dX12_bin_80 : decode cX12_bin 80 = .ok (.iastore, 1) := by decide +kernel
theorem dX12_bin_81 : decode cX12_bin 81 = .ok (.aload_n 0, 1) := by decide +kernel
theorem dX12_bin_82 : decode cX12_bin 82 = .ok (.getfield 184, 3) := by decide +kernel
theorem dX12_bin_85 : decode cX12_bin 85 = .ok (.aload_n 0, 1) := by decide +kernel
theorem dX12_bin_86 : decode cX12_bin 86 = .ok (.getfield 406, 3) := by decide +kernel
theorem dX12_bin_89 : decode cX12_bin 89 = .ok (.iload_n 1, 1) := by decide +kernel
theorem dX12_bin_90 : decode cX12_bin 90 = .ok (.iastore, 1) := by decide +kernel
theorem dX12_bin_91 : decode cX12_bin 91 = .ok (.aload_n 0, 1) := by decide +kernel
theorem dX12_bin_92 : decode cX12_bin 92 = .ok (.getfield 187, 3) := by decide +kernel
theorem dX12_bin_95 : decode cX12_bin 95 = .ok (.aload_n 0, 1) := by decide +kernel
theorem dX12_bin_96 : decode cX12_bin 96 = .ok (.getfield 406, 3) := by decide +kernel
theorem dX12_bin_99 : decode cX12_bin 99 = .ok (.aload_n 0, 1) := by decide +kernel
theorem dX12_bin_100 : decode cX12_bin 100 = .ok (.invokevirtual 230, 3) := by decide +kernel
theorem dX12_bin_103 : decode cX12_bin 103 = .ok (.iastore, 1) := by decide +kernel
theorem dX12_bin_104 : decode cX12_bin 104 = .ok (.aload_n 0, 1) := by decide +kernel
theorem dX12_bin_105 : decode cX12_bin 105 = .ok (.getfield 190, 3) := by decide +kernel
theorem dX12_bin_108 : decode cX12_bin 108 = .ok (.aload_n 0, 1) := by decide +kernel
theorem dX12_bin_109 : decode cX12_bin 109 = .ok (.getfield 406, 3) := by decide +kernel
theorem dX12_bin_112 : decode cX12_bin 112 = .ok (.iload_n 2, 1) := by decide +kernel
theorem dX12_bin_113 : decode cX12_bin 113 = .ok (.iastore, 1) := by decide +kernel
theorem dX12_bin_114 : decode cX12_bin 114 = .ok (.aload_n 0, 1) := by decide +kernel
theorem dX12_bin_115 : decode cX12_bin 115 = .ok (.dup, 1) := by decide +kernel
theorem dX12_bin_116 : decode cX12_bin 116 = .ok (.getfield 406, 3) := by decide +kernel
theorem dX12_bin_119 : decode cX12_bin 119 = .ok (.iconst 1, 1) := by decide +kernel
theorem dX12_bin_120 : decode cX12_bin 120 = .ok (.iadd, 1) := by decide +kernel
theorem dX12_bin_121 : decode cX12_bin 121 = .ok (.putfield 406, 3) := by decide +kernel
theorem dX12_bin_124 : decode cX12_bin 124 = .ok (.aload_n 0, 1) := by decide +kernel
theorem dX12_bin_125 : decode cX12_bin 125 = .ok (.iload_n 1, 1) := by decide +kernel
theorem dX12_bin_126 : decode cX12_bin 126 = .ok (.invokevirtual 245, 3) := by decide +kernel
theorem dX12_bin_129 : decode cX12_bin 129 = .ok (.ireturn, 1) := by decide +kernel
theorem dX12_tossed_0 : decode cX12_tossed 0 = .ok (.iload_n 1, 1) := by decide +kernel
theorem dX12_tossed_1 : decode cX12_tossed 1 = .ok (.invokestatic 220, 3) := by decide +kernel
theorem dX12_tossed_4 : decode cX12_tossed 4 = .ok (.ifCond .eq 12, 3) := by decide +kernel
theorem dX12_tossed_7 : decode cX12_tossed 7 = .ok (.aload_n 0, 1) := by decide +kernel
theorem dX12_tossed_8 : decode cX12_tossed 8 = .ok (.getfield 79, 3) := by decide +kernel
theorem dX12_tossed_11 : decode cX12_tossed 11 = .ok (.iload_n 1, 1) := by decide +kernel
theorem dX12_tossed_12 : decode cX12_tossed 12 = .ok (.iaload, 1) := by decide +kernel
theorem dX12_tossed_13 : decode cX12_tossed 13 = .ok (.goto 4, 3) := by decide +kernel
theorem dX12_tossed_16 : decode cX12_tossed 16 = .ok (.iconst (-1), 1) := by decide +kernel
theorem dX12_tossed_17 : decode cX12_tossed 17 = .ok (.ireturn, 1) := by decide +kernel
theorem dX12_isBadOn_0 : decode cX12_isBadOn 0 = .ok (.iconst 0, 1) := by decide +kernel
theorem dX12_isBadOn_1 : decode cX12_isBadOn 1 = .ok (.istore 4, 2) := by decide +kernel
theorem dX12_isBadOn_3 : decode cX12_isBadOn 3 = .ok (.iconst 0, 1) := by decide +kernel
theorem dX12_isBadOn_4 : decode cX12_isBadOn 4 = .ok (.istore 5, 2) := by decide +kernel
theorem dX12_isBadOn_6 : decode cX12_isBadOn 6 = .ok (.iconst 0, 1) := by decide +kernel
theorem dX12_isBadOn_7 : decode cX12_isBadOn 7 = .ok (.istore 6, 2) := by decide +kernel
theorem dX12_isBadOn_9 : decode cX12_isBadOn 9 = .ok (.iload 6, 2) := by decide +kernel
theorem dX12_isBadOn_11 : decode cX12_isBadOn 11 = .ok (.aload_n 0, 1) := by decide +kernel
theorem dX12_isBadOn_12 : decode cX12_isBadOn 12 = .ok (.getfield 227, 3) := by decide +kernel
theorem dX12_isBadOn_15 : decode cX12_isBadOn 15 = .ok (.if_icmp .ge 64, 3) := by decide +kernel
theorem dX12_isBadOn_18 : decode cX12_isBadOn 18 = .ok (.aload_n 0, 1) := by decide +kernel
theorem dX12_isBadOn_19 : decode cX12_isBadOn 19 = .ok (.getfield 46, 3) := by decide +kernel
theorem dX12_isBadOn_22 : decode cX12_isBadOn 22 = .ok (.iload 6, 2) := by decide +kernel
theorem dX12_isBadOn_24 : decode cX12_isBadOn 24 = .ok (.iaload, 1) := by decide +kernel
theorem dX12_isBadOn_25 : decode cX12_isBadOn 25 = .ok (.iload_n 1, 1) := by decide +kernel
theorem dX12_isBadOn_26 : decode cX12_isBadOn 26 = .ok (.if_icmp .ne 47, 3) := by decide +kernel
theorem dX12_isBadOn_29 : decode cX12_isBadOn 29 = .ok (.aload_n 0, 1) := by decide +kernel
theorem dX12_isBadOn_30 : decode cX12_isBadOn 30 = .ok (.getfield 49, 3) := by decide +kernel
theorem dX12_isBadOn_33 : decode cX12_isBadOn 33 = .ok (.iload 6, 2) := by decide +kernel
theorem dX12_isBadOn_35 : decode cX12_isBadOn 35 = .ok (.iaload, 1) := by decide +kernel
theorem dX12_isBadOn_36 : decode cX12_isBadOn 36 = .ok (.iload_n 2, 1) := by decide +kernel
theorem dX12_isBadOn_37 : decode cX12_isBadOn 37 = .ok (.if_icmp .ne 36, 3) := by decide +kernel
theorem dX12_isBadOn_40 : decode cX12_isBadOn 40 = .ok (.aload_n 0, 1) := by decide +kernel
theorem dX12_isBadOn_41 : decode cX12_isBadOn 41 = .ok (.getfield 76, 3) := by decide +kernel
theorem dX12_isBadOn_44 : decode cX12_isBadOn 44 = .ok (.iload 6, 2) := by decide +kernel
theorem dX12_isBadOn_46 : decode cX12_isBadOn 46 = .ok (.iaload, 1) := by decide +kernel
theorem dX12_isBadOn_47 : decode cX12_isBadOn 47 = .ok (.ifCond .ge 26, 3) := by decide +kernel
theorem dX12_isBadOn_50 : decode cX12_isBadOn 50 = .ok (.aload_n 0, 1) := by decide +kernel
theorem dX12_isBadOn_51 : decode cX12_isBadOn 51 = .ok (.getfield 55, 3) := by decide +kernel
theorem dX12_isBadOn_54 : decode cX12_isBadOn 54 = .ok (.iload 6, 2) := by decide +kernel
theorem dX12_isBadOn_56 : decode cX12_isBadOn 56 = .ok (.iaload, 1) := by decide +kernel
theorem dX12_isBadOn_57 : decode cX12_isBadOn 57 = .ok (.iload_n 3, 1) := by decide +kernel
theorem dX12_isBadOn_58 : decode cX12_isBadOn 58 = .ok (.if_icmp .gt 15, 3) := by decide +kernel
theorem dX12_isBadOn_61 : decode cX12_isBadOn 61 = .ok (.iload 4, 2) := by decide +kernel
theorem dX12_isBadOn_63 : decode cX12_isBadOn 63 = .ok (.aload_n 0, 1) := by decide +kernel
theorem dX12_isBadOn_64 : decode cX12_isBadOn 64 = .ok (.getfield 58, 3) := by decide +kernel
theorem dX12_isBadOn_67 : decode cX12_isBadOn 67 = .ok (.iload 6, 2) := by decide +kernel
theorem dX12_isBadOn_69 : decode cX12_isBadOn 69 = .ok (.iaload, 1) := by decide +kernel
theorem dX12_isBadOn_70 : decode cX12_isBadOn 70 = .ok (.iadd, 1) := by decide +kernel
theorem dX12_isBadOn_71 : decode cX12_isBadOn 71 = .ok (.istore 4, 2) := by decide +kernel
theorem dX12_isBadOn_73 : decode cX12_isBadOn 73 = .ok (.iinc 6 1, 3) := by decide +kernel
theorem dX12_isBadOn_76 : decode cX12_isBadOn 76 = .ok (.goto (-67), 3) := by decide +kernel
theorem dX12_isBadOn_79 : decode cX12_isBadOn 79 = .ok (.iconst 0, 1) := by decide +kernel
theorem dX12_isBadOn_80 : decode cX12_isBadOn 80 = .ok (.istore 6, 2) := by decide +kernel
theorem dX12_isBadOn_82 : decode cX12_isBadOn 82 = .ok (.iload 6, 2) := by decide +kernel
theorem dX12_isBadOn_84 : decode cX12_isBadOn 84 = .ok (.aload_n 0, 1) := by decide +kernel
theorem dX12_isBadOn_85 : decode cX12_isBadOn 85 = .ok (.getfield 406, 3) := by decide +kernel
theorem dX12_isBadOn_88 : decode cX12_isBadOn 88 = .ok (.if_icmp .ge 64, 3) := by decide +kernel
theorem dX12_isBadOn_91 : decode cX12_isBadOn 91 = .ok (.aload_n 0, 1) := by decide +kernel
theorem dX12_isBadOn_92 : decode cX12_isBadOn 92 = .ok (.getfield 46, 3) := by decide +kernel
theorem dX12_isBadOn_95 : decode cX12_isBadOn 95 = .ok (.aload_n 0, 1) := by decide +kernel
theorem dX12_isBadOn_96 : decode cX12_isBadOn 96 = .ok (.getfield 184, 3) := by decide +kernel
theorem dX12_isBadOn_99 : decode cX12_isBadOn 99 = .ok (.iload 6, 2) := by decide +kernel
theorem dX12_isBadOn_101 : decode cX12_isBadOn 101 = .ok (.iaload, 1) := by decide +kernel
theorem dX12_isBadOn_102 : decode cX12_isBadOn 102 = .ok (.iaload, 1) := by decide +kernel
theorem dX12_isBadOn_103 : decode cX12_isBadOn 103 = .ok (.iload_n 1, 1) := by decide +kernel
theorem dX12_isBadOn_104 : decode cX12_isBadOn 104 = .ok (.if_icmp .ne 42, 3) := by decide +kernel
theorem dX12_isBadOn_107 : decode cX12_isBadOn 107 = .ok (.aload_n 0, 1) := by decide +kernel
theorem dX12_isBadOn_108 : decode cX12_isBadOn 108 = .ok (.getfield 49, 3) := by decide +kernel
theorem dX12_isBadOn_111 : decode cX12_isBadOn 111 = .ok (.aload_n 0, 1) := by decide +kernel
theorem dX12_isBadOn_112 : decode cX12_isBadOn 112 = .ok (.getfield 184, 3) := by decide +kernel
theorem dX12_isBadOn_115 : decode cX12_isBadOn 115 = .ok (.iload 6, 2) := by decide +kernel
theorem dX12_isBadOn_117 : decode cX12_isBadOn 117 = .ok (.iaload, 1) := by decide +kernel
theorem dX12_isBadOn_118 : decode cX12_isBadOn 118 = .ok (.iaload, 1) := by decide +kernel
theorem dX12_isBadOn_119 : decode cX12_isBadOn 119 = .ok (.iload_n 2, 1) := by decide +kernel
theorem dX12_isBadOn_120 : decode cX12_isBadOn 120 = .ok (.if_icmp .ne 26, 3) := by decide +kernel
theorem dX12_isBadOn_123 : decode cX12_isBadOn 123 = .ok (.aload_n 0, 1) := by decide +kernel
theorem dX12_isBadOn_124 : decode cX12_isBadOn 124 = .ok (.getfield 187, 3) := by decide +kernel
theorem dX12_isBadOn_127 : decode cX12_isBadOn 127 = .ok (.iload 6, 2) := by decide +kernel
theorem dX12_isBadOn_129 : decode cX12_isBadOn 129 = .ok (.iaload, 1) := by decide +kernel
theorem dX12_isBadOn_130 : decode cX12_isBadOn 130 = .ok (.iload_n 3, 1) := by decide +kernel
theorem dX12_isBadOn_131 : decode cX12_isBadOn 131 = .ok (.if_icmp .gt 15, 3) := by decide +kernel
theorem dX12_isBadOn_134 : decode cX12_isBadOn 134 = .ok (.iload 5, 2) := by decide +kernel
theorem dX12_isBadOn_136 : decode cX12_isBadOn 136 = .ok (.aload_n 0, 1) := by decide +kernel
theorem dX12_isBadOn_137 : decode cX12_isBadOn 137 = .ok (.getfield 190, 3) := by decide +kernel
theorem dX12_isBadOn_140 : decode cX12_isBadOn 140 = .ok (.iload 6, 2) := by decide +kernel
theorem dX12_isBadOn_142 : decode cX12_isBadOn 142 = .ok (.iaload, 1) := by decide +kernel
theorem dX12_isBadOn_143 : decode cX12_isBadOn 143 = .ok (.iadd, 1) := by decide +kernel
theorem dX12_isBadOn_144 : decode cX12_isBadOn 144 = .ok (.istore 5, 2) := by decide +kernel
theorem dX12_isBadOn_146 : decode cX12_isBadOn 146 = .ok (.iinc 6 1, 3) := by decide +kernel
theorem dX12_isBadOn_149 : decode cX12_isBadOn 149 = .ok (.goto (-67), 3) := by decide +kernel
theorem dX12_isBadOn_152 : decode cX12_isBadOn 152 = .ok (.iload 5, 2) := by decide +kernel
theorem dX12_isBadOn_154 : decode cX12_isBadOn 154 = .ok (.iconst 3, 1) := by decide +kernel
theorem dX12_isBadOn_155 : decode cX12_isBadOn 155 = .ok (.if_icmp .lt 17, 3) := by decide +kernel
theorem dX12_isBadOn_158 : decode cX12_isBadOn 158 = .ok (.bipush 10, 2) := by decide +kernel
theorem dX12_isBadOn_160 : decode cX12_isBadOn 160 = .ok (.iload 5, 2) := by decide +kernel
theorem dX12_isBadOn_162 : decode cX12_isBadOn 162 = .ok (.imul, 1) := by decide +kernel
theorem dX12_isBadOn_163 : decode cX12_isBadOn 163 = .ok (.iload 4, 2) := by decide +kernel
theorem dX12_isBadOn_165 : decode cX12_isBadOn 165 = .ok (.if_icmp .le 7, 3) := by decide +kernel
theorem dX12_isBadOn_168 : decode cX12_isBadOn 168 = .ok (.iconst 1, 1) := by decide +kernel
theorem dX12_isBadOn_169 : decode cX12_isBadOn 169 = .ok (.goto 4, 3) := by decide +kernel
theorem dX12_isBadOn_172 : decode cX12_isBadOn 172 = .ok (.iconst 0, 1) := by decide +kernel
theorem dX12_isBadOn_173 : decode cX12_isBadOn 173 = .ok (.ireturn, 1) := by decide +kernel
theorem dX12_isLot_0 : decode cX12_isLot 0 = .ok (.aload_n 0, 1) := by decide +kernel
theorem dX12_isLot_1 : decode cX12_isLot 1 = .ok (.iload_n 1, 1) := by decide +kernel
theorem dX12_isLot_2 : decode cX12_isLot 2 = .ok (.invokevirtual 213, 3) := by decide +kernel
theorem dX12_isLot_5 : decode cX12_isLot 5 = .ok (.ifCond .eq 17, 3) := by decide +kernel
theorem dX12_isLot_8 : decode cX12_isLot 8 = .ok (.iload_n 2, 1) := by decide +kernel
theorem dX12_isLot_9 : decode cX12_isLot 9 = .ok (.iconst 0, 1) := by decide +kernel
theorem dX12_isLot_10 : decode cX12_isLot 10 = .ok (.bipush 99, 2) := by decide +kernel
theorem dX12_isLot_12 : decode cX12_isLot 12 = .ok (.invokestatic 196, 3) := by decide +kernel
theorem dX12_isLot_15 : decode cX12_isLot 15 = .ok (.ifCond .eq 7, 3) := by decide +kernel
theorem dX12_isLot_18 : decode cX12_isLot 18 = .ok (.iconst 1, 1) := by decide +kernel
theorem dX12_isLot_19 : decode cX12_isLot 19 = .ok (.goto 4, 3) := by decide +kernel
theorem dX12_isLot_22 : decode cX12_isLot 22 = .ok (.iconst 0, 1) := by decide +kernel
theorem dX12_isLot_23 : decode cX12_isLot 23 = .ok (.ireturn, 1) := by decide +kernel
theorem dX12_isBad_0 : decode cX12_isBad 0 = .ok (.aload_n 0, 1) := by decide +kernel
theorem dX12_isBad_1 : decode cX12_isBad 1 = .ok (.iload_n 1, 1) := by decide +kernel
theorem dX12_isBad_2 : decode cX12_isBad 2 = .ok (.iload_n 2, 1) := by decide +kernel
theorem dX12_isBad_3 : decode cX12_isBad 3 = .ok (.invokevirtual 409, 3) := by decide +kernel
theorem dX12_isBad_6 : decode cX12_isBad 6 = .ok (.ifCond .eq 10, 3) := by decide +kernel
theorem dX12_isBad_9 : decode cX12_isBad 9 = .ok (.iload_n 3, 1) := by decide +kernel
theorem dX12_isBad_10 : decode cX12_isBad 10 = .ok (.invokestatic 220, 3) := by decide +kernel
theorem dX12_isBad_13 : decode cX12_isBad 13 = .ok (.ifCond .ne 7, 3) := by decide +kernel
theorem dX12_isBad_16 : decode cX12_isBad 16 = .ok (.iconst (-1), 1) := by decide +kernel
theorem dX12_isBad_17 : decode cX12_isBad 17 = .ok (.goto 18, 3) := by decide +kernel
theorem dX12_isBad_20 : decode cX12_isBad 20 = .ok (.aload_n 0, 1) := by decide +kernel
theorem dX12_isBad_21 : decode cX12_isBad 21 = .ok (.iload_n 1, 1) := by decide +kernel
theorem dX12_isBad_22 : decode cX12_isBad 22 = .ok (.iload_n 2, 1) := by decide +kernel
theorem dX12_isBad_23 : decode cX12_isBad 23 = .ok (.iload_n 3, 1) := by decide +kernel
theorem dX12_isBad_24 : decode cX12_isBad 24 = .ok (.invokevirtual 412, 3) := by decide +kernel
theorem dX12_isBad_27 : decode cX12_isBad 27 = .ok (.ifCond .eq 7, 3) := by decide +kernel
theorem dX12_isBad_30 : decode cX12_isBad 30 = .ok (.iconst 1, 1) := by decide +kernel
theorem dX12_isBad_31 : decode cX12_isBad 31 = .ok (.goto 4, 3) := by decide +kernel
theorem dX12_isBad_34 : decode cX12_isBad 34 = .ok (.iconst 0, 1) := by decide +kernel
theorem dX12_isBad_35 : decode cX12_isBad 35 = .ok (.ireturn, 1) := by decide +kernel
theorem dX12_since_0 : decode cX12_since 0 = .ok (.aload_n 0, 1) := by decide +kernel
theorem dX12_since_1 : decode cX12_since 1 = .ok (.iload_n 1, 1) := by decide +kernel
theorem dX12_since_2 : decode cX12_since 2 = .ok (.iload_n 2, 1) := by decide +kernel
theorem dX12_since_3 : decode cX12_since 3 = .ok (.invokevirtual 409, 3) := by decide +kernel
theorem dX12_since_6 : decode cX12_since 6 = .ok (.ifCond .ne 5, 3) := by decide +kernel
theorem dX12_since_9 : decode cX12_since 9 = .ok (.iconst (-1), 1) := by decide +kernel
theorem dX12_since_10 : decode cX12_since 10 = .ok (.ireturn, 1) := by decide +kernel
theorem dX12_since_11 : decode cX12_since 11 = .ok (.iconst 0, 1) := by decide +kernel
theorem dX12_since_12 : decode cX12_since 12 = .ok (.istore_n 3, 1) := by decide +kernel
theorem dX12_since_13 : decode cX12_since 13 = .ok (.iload_n 3, 1) := by decide +kernel
theorem dX12_since_14 : decode cX12_since 14 = .ok (.aload_n 0, 1) := by decide +kernel
theorem dX12_since_15 : decode cX12_since 15 = .ok (.invokevirtual 230, 3) := by decide +kernel
theorem dX12_since_18 : decode cX12_since 18 = .ok (.if_icmp .gt 21, 3) := by decide +kernel
theorem dX12_since_21 : decode cX12_since 21 = .ok (.aload_n 0, 1) := by decide +kernel
theorem dX12_since_22 : decode cX12_since 22 = .ok (.iload_n 1, 1) := by decide +kernel
theorem dX12_since_23 : decode cX12_since 23 = .ok (.iload_n 2, 1) := by decide +kernel
theorem dX12_since_24 : decode cX12_since 24 = .ok (.iload_n 3, 1) := by decide +kernel
theorem dX12_since_25 : decode cX12_since 25 = .ok (.invokevirtual 412, 3) := by decide +kernel
theorem dX12_since_28 : decode cX12_since 28 = .ok (.ifCond .eq 5, 3) := by decide +kernel
theorem dX12_since_31 : decode cX12_since 31 = .ok (.iload_n 3, 1) := by decide +kernel
theorem dX12_since_32 : decode cX12_since 32 = .ok (.ireturn, 1) := by decide +kernel
theorem dX12_since_33 : decode cX12_since 33 = .ok (.iinc 3 1, 3) := by decide +kernel
theorem dX12_since_36 : decode cX12_since 36 = .ok (.goto (-23), 3) := by decide +kernel
theorem dX12_since_39 : decode cX12_since 39 = .ok (.bipush (-2), 2) := by decide +kernel
theorem dX12_since_41 : decode cX12_since 41 = .ok (.ireturn, 1) := by decide +kernel
theorem dX12_till_0 : decode cX12_till 0 = .ok (.aload_n 0, 1) := by decide +kernel
theorem dX12_till_1 : decode cX12_till 1 = .ok (.iload_n 1, 1) := by decide +kernel
theorem dX12_till_2 : decode cX12_till 2 = .ok (.invokevirtual 209, 3) := by decide +kernel
theorem dX12_till_5 : decode cX12_till 5 = .ok (.ifCond .eq 12, 3) := by decide +kernel
theorem dX12_till_8 : decode cX12_till 8 = .ok (.aload_n 0, 1) := by decide +kernel
theorem dX12_till_9 : decode cX12_till 9 = .ok (.getfield 16, 3) := by decide +kernel
theorem dX12_till_12 : decode cX12_till 12 = .ok (.iload_n 1, 1) := by decide +kernel
theorem dX12_till_13 : decode cX12_till 13 = .ok (.iaload, 1) := by decide +kernel
theorem dX12_till_14 : decode cX12_till 14 = .ok (.goto 4, 3) := by decide +kernel
theorem dX12_till_17 : decode cX12_till 17 = .ok (.iconst (-1), 1) := by decide +kernel
theorem dX12_till_18 : decode cX12_till 18 = .ok (.ireturn, 1) := by decide +kernel
theorem dX12_count_0 : decode cX12_count 0 = .ok (.iconst 0, 1) := by decide +kernel
theorem dX12_count_1 : decode cX12_count 1 = .ok (.istore_n 2, 1) := by decide +kernel
theorem dX12_count_2 : decode cX12_count 2 = .ok (.iload_n 1, 1) := by decide +kernel
theorem dX12_count_3 : decode cX12_count 3 = .ok (.tableswitch 255 0 13 #[69, 74, 79, 84, 89, 94, 99, 104, 109, 114, 140, 167, 194, 221], 69) := by decide +kernel
theorem dX12_count_72 : decode cX12_count 72 = .ok (.aload_n 0, 1) := by decide +kernel
theorem dX12_count_73 : decode cX12_count 73 = .ok (.getfield 203, 3) := by decide +kernel
theorem dX12_count_76 : decode cX12_count 76 = .ok (.ireturn, 1) := by decide +kernel
theorem dX12_count_77 : decode cX12_count 77 = .ok (.aload_n 0, 1) := by decide +kernel
theorem dX12_count_78 : decode cX12_count 78 = .ok (.getfield 206, 3) := by decide +kernel
theorem dX12_count_81 : decode cX12_count 81 = .ok (.ireturn, 1) := by decide +kernel
theorem dX12_count_82 : decode cX12_count 82 = .ok (.aload_n 0, 1) := by decide +kernel
theorem dX12_count_83 : decode cX12_count 83 = .ok (.getfield 227, 3) := by decide +kernel
theorem dX12_count_86 : decode cX12_count 86 = .ok (.ireturn, 1) := by decide +kernel
theorem dX12_count_87 : decode cX12_count 87 = .ok (.aload_n 0, 1) := by decide +kernel
theorem dX12_count_88 : decode cX12_count 88 = .ok (.getfield 337, 3) := by decide +kernel
theorem dX12_count_91 : decode cX12_count 91 = .ok (.ireturn, 1) := by decide +kernel
theorem dX12_count_92 : decode cX12_count 92 = .ok (.aload_n 0, 1) := by decide +kernel
theorem dX12_count_93 : decode cX12_count 93 = .ok (.getfield 305, 3) := by decide +kernel
theorem dX12_count_96 : decode cX12_count 96 = .ok (.ireturn, 1) := by decide +kernel
theorem dX12_count_97 : decode cX12_count 97 = .ok (.aload_n 0, 1) := by decide +kernel
theorem dX12_count_98 : decode cX12_count 98 = .ok (.getfield 200, 3) := by decide +kernel
theorem dX12_count_101 : decode cX12_count 101 = .ok (.ireturn, 1) := by decide +kernel
theorem dX12_count_102 : decode cX12_count 102 = .ok (.aload_n 0, 1) := by decide +kernel
theorem dX12_count_103 : decode cX12_count 103 = .ok (.getfield 403, 3) := by decide +kernel
theorem dX12_count_106 : decode cX12_count 106 = .ok (.ireturn, 1) := by decide +kernel
theorem dX12_count_107 : decode cX12_count 107 = .ok (.aload_n 0, 1) := by decide +kernel
theorem dX12_count_108 : decode cX12_count 108 = .ok (.getfield 252, 3) := by decide +kernel
theorem dX12_count_111 : decode cX12_count 111 = .ok (.ireturn, 1) := by decide +kernel
theorem dX12_count_112 : decode cX12_count 112 = .ok (.aload_n 0, 1) := by decide +kernel
theorem dX12_count_113 : decode cX12_count 113 = .ok (.getfield 238, 3) := by decide +kernel
theorem dX12_count_116 : decode cX12_count 116 = .ok (.ireturn, 1) := by decide +kernel
theorem dX12_count_117 : decode cX12_count 117 = .ok (.iconst 0, 1) := by decide +kernel
theorem dX12_count_118 : decode cX12_count 118 = .ok (.istore_n 3, 1) := by decide +kernel
theorem dX12_count_119 : decode cX12_count 119 = .ok (.iload_n 3, 1) := by decide +kernel
theorem dX12_count_120 : decode cX12_count 120 = .ok (.aload_n 0, 1) := by decide +kernel
theorem dX12_count_121 : decode cX12_count 121 = .ok (.getfield 227, 3) := by decide +kernel
theorem dX12_count_124 : decode cX12_count 124 = .ok (.if_icmp .ge 17, 3) := by decide +kernel
theorem dX12_count_127 : decode cX12_count 127 = .ok (.iload_n 2, 1) := by decide +kernel
theorem dX12_count_128 : decode cX12_count 128 = .ok (.aload_n 0, 1) := by decide +kernel
theorem dX12_count_129 : decode cX12_count 129 = .ok (.iload_n 3, 1) := by decide +kernel
theorem dX12_count_130 : decode cX12_count 130 = .ok (.invokevirtual 245, 3) := by decide +kernel
theorem dX12_count_133 : decode cX12_count 133 = .ok (.iadd, 1) := by decide +kernel
theorem dX12_count_134 : decode cX12_count 134 = .ok (.istore_n 2, 1) := by decide +kernel
theorem dX12_count_135 : decode cX12_count 135 = .ok (.iinc 3 1, 3) := by decide +kernel
theorem dX12_count_138 : decode cX12_count 138 = .ok (.goto (-19), 3) := by decide +kernel
theorem dX12_count_141 : decode cX12_count 141 = .ok (.iload_n 2, 1) := by decide +kernel
theorem dX12_count_142 : decode cX12_count 142 = .ok (.ireturn, 1) := by decide +kernel
theorem dX12_count_143 : decode cX12_count 143 = .ok (.iconst 0, 1) := by decide +kernel
theorem dX12_count_144 : decode cX12_count 144 = .ok (.istore_n 3, 1) := by decide +kernel
theorem dX12_count_145 : decode cX12_count 145 = .ok (.iload_n 3, 1) := by decide +kernel
theorem dX12_count_146 : decode cX12_count 146 = .ok (.aload_n 0, 1) := by decide +kernel
theorem dX12_count_147 : decode cX12_count 147 = .ok (.getfield 227, 3) := by decide +kernel
theorem dX12_count_150 : decode cX12_count 150 = .ok (.if_icmp .ge 18, 3) := by decide +kernel
theorem dX12_count_153 : decode cX12_count 153 = .ok (.iload_n 2, 1) := by decide +kernel
theorem dX12_count_154 : decode cX12_count 154 = .ok (.aload_n 0, 1) := by decide +kernel
theorem dX12_count_155 : decode cX12_count 155 = .ok (.getfield 61, 3) := by decide +kernel
theorem dX12_count_158 : decode cX12_count 158 = .ok (.iload_n 3, 1) := by decide +kernel
theorem dX12_count_159 : decode cX12_count 159 = .ok (.iaload, 1) := by decide +kernel
theorem dX12_count_160 : decode cX12_count 160 = .ok (.iadd, 1) := by decide +kernel
theorem dX12_count_161 : decode cX12_count 161 = .ok (.istore_n 2, 1) := by decide +kernel
theorem dX12_count_162 : decode cX12_count 162 = .ok (.iinc 3 1, 3) := by decide +kernel
theorem dX12_count_165 : decode cX12_count 165 = .ok (.goto (-20), 3) := by decide +kernel
theorem dX12_count_168 : decode cX12_count 168 = .ok (.iload_n 2, 1) := by decide +kernel
theorem dX12_count_169 : decode cX12_count 169 = .ok (.ireturn, 1) := by decide +kernel
theorem dX12_count_170 : decode cX12_count 170 = .ok (.iconst 0, 1) := by decide +kernel
theorem dX12_count_171 : decode cX12_count 171 = .ok (.istore_n 3, 1) := by decide +kernel
theorem dX12_count_172 : decode cX12_count 172 = .ok (.iload_n 3, 1) := by decide +kernel
theorem dX12_count_173 : decode cX12_count 173 = .ok (.aload_n 0, 1) := by decide +kernel
theorem dX12_count_174 : decode cX12_count 174 = .ok (.getfield 227, 3) := by decide +kernel
theorem dX12_count_177 : decode cX12_count 177 = .ok (.if_icmp .ge 18, 3) := by decide +kernel
theorem dX12_count_180 : decode cX12_count 180 = .ok (.iload_n 2, 1) := by decide +kernel
theorem dX12_count_181 : decode cX12_count 181 = .ok (.aload_n 0, 1) := by decide +kernel
theorem dX12_count_182 : decode cX12_count 182 = .ok (.getfield 67, 3) := by decide +kernel
theorem dX12_count_185 : decode cX12_count 185 = .ok (.iload_n 3, 1) := by decide +kernel
theorem dX12_count_186 : decode cX12_count 186 = .ok (.iaload, 1) := by decide +kernel
theorem dX12_count_187 : decode cX12_count 187 = .ok (.iadd, 1) := by decide +kernel
theorem dX12_count_188 : decode cX12_count 188 = .ok (.istore_n 2, 1) := by decide +kernel
theorem dX12_count_189 : decode cX12_count 189 = .ok (.iinc 3 1, 3) := by decide +kernel
theorem dX12_count_192 : decode cX12_count 192 = .ok (.goto (-20), 3) := by decide +kernel
theorem dX12_count_195 : decode cX12_count 195 = .ok (.iload_n 2, 1) := by decide +kernel
theorem dX12_count_196 : decode cX12_count 196 = .ok (.ireturn, 1) := by decide +kernel
theorem dX12_count_197 : decode cX12_count 197 = .ok (.iconst 0, 1) := by decide +kernel
theorem dX12_count_198 : decode cX12_count 198 = .ok (.istore_n 3, 1) := by decide +kernel
theorem dX12_count_199 : decode cX12_count 199 = .ok (.iload_n 3, 1) := by decide +kernel
theorem dX12_count_200 : decode cX12_count 200 = .ok (.aload_n 0, 1) := by decide +kernel
theorem dX12_count_201 : decode cX12_count 201 = .ok (.getfield 227, 3) := by decide +kernel
theorem dX12_count_204 : decode cX12_count 204 = .ok (.if_icmp .ge 18, 3) := by decide +kernel
theorem dX12_count_207 : decode cX12_count 207 = .ok (.iload_n 2, 1) := by decide +kernel
theorem dX12_count_208 : decode cX12_count 208 = .ok (.aload_n 0, 1) := by decide +kernel
theorem dX12_count_209 : decode cX12_count 209 = .ok (.getfield 70, 3) := by decide +kernel
theorem dX12_count_212 : decode cX12_count 212 = .ok (.iload_n 3, 1) := by decide +kernel
theorem dX12_count_213 : decode cX12_count 213 = .ok (.iaload, 1) := by decide +kernel
theorem dX12_count_214 : decode cX12_count 214 = .ok (.iadd, 1) := by decide +kernel
theorem dX12_count_215 : decode cX12_count 215 = .ok (.istore_n 2, 1) := by decide +kernel
theorem dX12_count_216 : decode cX12_count 216 = .ok (.iinc 3 1, 3) := by decide +kernel
theorem dX12_count_219 : decode cX12_count 219 = .ok (.goto (-20), 3) := by decide +kernel
theorem dX12_count_222 : decode cX12_count 222 = .ok (.iload_n 2, 1) := by decide +kernel
theorem dX12_count_223 : decode cX12_count 223 = .ok (.ireturn, 1) := by decide +kernel
theorem dX12_count_224 : decode cX12_count 224 = .ok (.iconst 0, 1) := by decide +kernel
theorem dX12_count_225 : decode cX12_count 225 = .ok (.istore_n 3, 1) := by decide +kernel
theorem dX12_count_226 : decode cX12_count 226 = .ok (.iload_n 3, 1) := by decide +kernel
theorem dX12_count_227 : decode cX12_count 227 = .ok (.aload_n 0, 1) := by decide +kernel
theorem dX12_count_228 : decode cX12_count 228 = .ok (.getfield 337, 3) := by decide +kernel
theorem dX12_count_231 : decode cX12_count 231 = .ok (.if_icmp .ge 25, 3) := by decide +kernel
theorem dX12_count_234 : decode cX12_count 234 = .ok (.iload_n 2, 1) := by decide +kernel
theorem dX12_count_235 : decode cX12_count 235 = .ok (.aload_n 0, 1) := by decide +kernel
theorem dX12_count_236 : decode cX12_count 236 = .ok (.getfield 122, 3) := by decide +kernel
theorem dX12_count_239 : decode cX12_count 239 = .ok (.iload_n 3, 1) := by decide +kernel
theorem dX12_count_240 : decode cX12_count 240 = .ok (.iaload, 1) := by decide +kernel
theorem dX12_count_241 : decode cX12_count 241 = .ok (.aload_n 0, 1) := by decide +kernel
theorem dX12_count_242 : decode cX12_count 242 = .ok (.getfield 125, 3) := by decide +kernel
theorem dX12_count_245 : decode cX12_count 245 = .ok (.iload_n 3, 1) := by decide +kernel
theorem dX12_count_246 : decode cX12_count 246 = .ok (.iaload, 1) := by decide +kernel
theorem dX12_count_247 : decode cX12_count 247 = .ok (.isub, 1) := by decide +kernel
theorem dX12_count_248 : decode cX12_count 248 = .ok (.iadd, 1) := by decide +kernel
theorem dX12_count_249 : decode cX12_count 249 = .ok (.istore_n 2, 1) := by decide +kernel
theorem dX12_count_250 : decode cX12_count 250 = .ok (.iinc 3 1, 3) := by decide +kernel
theorem dX12_count_253 : decode cX12_count 253 = .ok (.goto (-27), 3) := by decide +kernel
theorem dX12_count_256 : decode cX12_count 256 = .ok (.iload_n 2, 1) := by decide +kernel
theorem dX12_count_257 : decode cX12_count 257 = .ok (.ireturn, 1) := by decide +kernel
theorem dX12_count_258 : decode cX12_count 258 = .ok (.iconst (-1), 1) := by decide +kernel
theorem dX12_count_259 : decode cX12_count 259 = .ok (.ireturn, 1) := by decide +kernel
