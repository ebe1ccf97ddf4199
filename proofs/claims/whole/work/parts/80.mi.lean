theorem dX13_init_0 : decode cX13_init 0 = .ok (.aload_n 0, 1) := by decide +kernel
theorem dX13_init_1 : decode cX13_init 1 = .ok (.invokespecial 1, 3) := by decide +kernel
theorem dX13_init_4 : decode cX13_init 4 = .ok (.aload_n 0, 1) := by decide +kernel
theorem dX13_init_5 : decode cX13_init 5 = .ok (.sipush 160, 3) := by decide +kernel
theorem dX13_init_8 : decode cX13_init 8 = .ok (.newarray .byte, 2) := by decide +kernel
theorem dX13_init_10 : decode cX13_init 10 = .ok (.putfield 7, 3) := by decide +kernel
theorem dX13_init_13 : decode cX13_init 13 = .ok (.aload_n 0, 1) := by decide +kernel
theorem dX13_init_14 : decode cX13_init 14 = .ok (.iconst (-1), 1) := by decide +kernel
theorem dX13_init_15 : decode cX13_init 15 = .ok (.putfield 13, 3) := by decide +kernel
theorem dX13_init_18 : decode cX13_init 18 = .ok (.aload_n 0, 1) := by decide +kernel
theorem dX13_init_19 : decode cX13_init 19 = .ok (.sipush 160, 3) := by decide +kernel
theorem dX13_init_22 : decode cX13_init 22 = .ok (.newarray .byte, 2) := by decide +kernel
theorem dX13_init_24 : decode cX13_init 24 = .ok (.putfield 17, 3) := by decide +kernel
theorem dX13_init_27 : decode cX13_init 27 = .ok (.aload_n 0, 1) := by decide +kernel
theorem dX13_init_28 : decode cX13_init 28 = .ok (.sipush 160, 3) := by decide +kernel
theorem dX13_init_31 : decode cX13_init 31 = .ok (.newarray .byte, 2) := by decide +kernel
theorem dX13_init_33 : decode cX13_init 33 = .ok (.putfield 20, 3) := by decide +kernel
theorem dX13_init_36 : decode cX13_init 36 = .ok (.aload_n 0, 1) := by decide +kernel
theorem dX13_init_37 : decode cX13_init 37 = .ok (.bipush 41, 2) := by decide +kernel
theorem dX13_init_39 : decode cX13_init 39 = .ok (.newarray .int, 2) := by decide +kernel
theorem dX13_init_41 : decode cX13_init 41 = .ok (.putfield 23, 3) := by decide +kernel
theorem dX13_init_44 : decode cX13_init 44 = .ok (.aload_n 0, 1) := by decide +kernel
theorem dX13_init_45 : decode cX13_init 45 = .ok (.bipush 41, 2) := by decide +kernel
theorem dX13_init_47 : decode cX13_init 47 = .ok (.newarray .int, 2) := by decide +kernel
theorem dX13_init_49 : decode cX13_init 49 = .ok (.putfield 27, 3) := by decide +kernel
theorem dX13_init_52 : decode cX13_init 52 = .ok (.aload_n 0, 1) := by decide +kernel
theorem dX13_init_53 : decode cX13_init 53 = .ok (.bipush 41, 2) := by decide +kernel
theorem dX13_init_55 : decode cX13_init 55 = .ok (.newarray .int, 2) := by decide +kernel
theorem dX13_init_57 : decode cX13_init 57 = .ok (.putfield 30, 3) := by decide +kernel
theorem dX13_init_60 : decode cX13_init 60 = .ok (.aload_n 0, 1) := by decide +kernel
theorem dX13_init_61 : decode cX13_init 61 = .ok (.bipush 41, 2) := by decide +kernel
theorem dX13_init_63 : decode cX13_init 63 = .ok (.newarray .int, 2) := by decide +kernel
theorem dX13_init_65 : decode cX13_init 65 = .ok (.putfield 33, 3) := by decide +kernel
theorem dX13_init_68 : decode cX13_init 68 = .ok (.aload_n 0, 1) := by decide +kernel
theorem dX13_init_69 : decode cX13_init 69 = .ok (.bipush 41, 2) := by decide +kernel
theorem dX13_init_71 : decode cX13_init 71 = .ok (.newarray .int, 2) := by decide +kernel
theorem dX13_init_73 : decode cX13_init 73 = .ok (.putfield 36, 3) := by decide +kernel
theorem dX13_init_76 : decode cX13_init 76 = .ok (.aload_n 0, 1) := by decide +kernel
theorem dX13_init_77 : decode cX13_init 77 = .ok (.bipush 41, 2) := by decide +kernel
theorem dX13_init_79 : decode cX13_init 79 = .ok (.newarray .int, 2) := by decide +kernel
theorem dX13_init_81 : decode cX13_init 81 = .ok (.putfield 39, 3) := by decide +kernel
theorem dX13_init_84 : decode cX13_init 84 = .ok (.aload_n 0, 1) := by decide +kernel
theorem dX13_init_85 : decode cX13_init 85 = .ok (.bipush 41, 2) := by decide +kernel
theorem dX13_init_87 : decode cX13_init 87 = .ok (.newarray .int, 2) := by decide +kernel
theorem dX13_init_89 : decode cX13_init 89 = .ok (.putfield 42, 3) := by decide +kernel
theorem dX13_init_92 : decode cX13_init 92 = .ok (.aload_n 0, 1) := by decide +kernel
theorem dX13_init_93 : decode cX13_init 93 = .ok (.bipush 41, 2) := by decide +kernel
theorem dX13_init_95 : decode cX13_init 95 = .ok (.newarray .int, 2) := by decide +kernel
theorem dX13_init_97 : decode cX13_init 97 = .ok (.putfield 45, 3) := by decide +kernel
theorem dX13_init_100 : decode cX13_init 100 = .ok (.aload_n 0, 1) := by decide +kernel
theorem dX13_init_101 : decode cX13_init 101 = .ok (.bipush 8, 2) := by decide +kernel
theorem dX13_init_103 : decode cX13_init 103 = .ok (.newarray .int, 2) := by decide +kernel
theorem dX13_init_105 : decode cX13_init 105 = .ok (.putfield 48, 3) := by decide +kernel
theorem dX13_init_108 : decode cX13_init 108 = .ok (.aload_n 0, 1) := by decide +kernel
theorem dX13_init_109 : decode cX13_init 109 = .ok (.sipush 160, 3) := by decide +kernel
theorem dX13_init_112 : decode cX13_init 112 = .ok (.newarray .byte, 2) := by decide +kernel
theorem dX13_init_114 : decode cX13_init 114 = .ok (.putfield 51, 3) := by decide +kernel
theorem dX13_init_117 : decode cX13_init 117 = .ok (.aload_n 0, 1) := by decide +kernel
theorem dX13_init_118 : decode cX13_init 118 = .ok (.bipush 100, 2) := by decide +kernel
theorem dX13_init_120 : decode cX13_init 120 = .ok (.newarray .int, 2) := by decide +kernel
theorem dX13_init_122 : decode cX13_init 122 = .ok (.putfield 54, 3) := by decide +kernel
theorem dX13_init_125 : decode cX13_init 125 = .ok (.aload_n 0, 1) := by decide +kernel
theorem dX13_init_126 : decode cX13_init 126 = .ok (.bipush 100, 2) := by decide +kernel
theorem dX13_init_128 : decode cX13_init 128 = .ok (.newarray .int, 2) := by decide +kernel
theorem dX13_init_130 : decode cX13_init 130 = .ok (.putfield 57, 3) := by decide +kernel
theorem dX13_init_133 : decode cX13_init 133 = .ok (.aload_n 0, 1) := by decide +kernel
theorem dX13_init_134 : decode cX13_init 134 = .ok (.bipush 100, 2) := by decide +kernel
theorem dX13_init_136 : decode cX13_init 136 = .ok (.newarray .int, 2) := by decide +kernel
theorem dX13_init_138 : decode cX13_init 138 = .ok (.putfield 60, 3) := by decide +kernel
theorem dX13_init_141 : decode cX13_init 141 = .ok (.aload_n 0, 1) := by decide +kernel
theorem dX13_init_142 : decode cX13_init 142 = .ok (.bipush 100, 2) := by decide +kernel
theorem dX13_init_144 : decode cX13_init 144 = .ok (.newarray .boolean, 2) := by decide +kernel
theorem dX13_init_146 : decode cX13_init 146 = .ok (.putfield 63, 3) := by decide +kernel
theorem dX13_init_149 : decode cX13_init 149 = .ok (.aload_n 0, 1) := by decide +kernel
theorem dX13_init_150 : decode cX13_init 150 = .ok (.sipush 170, 3) := by decide +kernel
theorem dX13_init_153 : decode cX13_init 153 = .ok (.newarray .int, 2) := by decide +kernel
theorem dX13_init_155 : decode cX13_init 155 = .ok (.putfield 67, 3) := by decide +kernel
theorem dX13_init_158 : decode cX13_init 158 = .ok (.aload_n 0, 1) := by decide +kernel
theorem dX13_init_159 : decode cX13_init 159 = .ok (.sipush 170, 3) := by decide +kernel
theorem dX13_init_162 : decode cX13_init 162 = .ok (.newarray .int, 2) := by decide +kernel
theorem dX13_init_164 : decode cX13_init 164 = .ok (.putfield 70, 3) := by decide +kernel
theorem dX13_init_167 : decode cX13_init 167 = .ok (.aload_n 0, 1) := by decide +kernel
theorem dX13_init_168 : decode cX13_init 168 = .ok (.sipush 170, 3) := by decide +kernel
theorem dX13_init_171 : decode cX13_init 171 = .ok (.newarray .int, 2) := by decide +kernel
theorem dX13_init_173 : decode cX13_init 173 = .ok (.putfield 73, 3) := by decide +kernel
theorem dX13_init_176 : decode cX13_init 176 = .ok (.aload_n 0, 1) := by decide +kernel
theorem dX13_init_177 : decode cX13_init 177 = .ok (.sipush 170, 3) := by decide +kernel
theorem dX13_init_180 : decode cX13_init 180 = .ok (.newarray .int, 2) := by decide +kernel
theorem dX13_init_182 : decode cX13_init 182 = .ok (.putfield 76, 3) := by decide +kernel
theorem dX13_init_185 : decode cX13_init 185 = .ok (.aload_n 0, 1) := by decide +kernel
theorem dX13_init_186 : decode cX13_init 186 = .ok (.sipush 170, 3) := by decide +kernel
theorem dX13_init_189 : decode cX13_init 189 = .ok (.newarray .int, 2) := by decide +kernel
theorem dX13_init_191 : decode cX13_init 191 = .ok (.putfield 79, 3) := by decide +kernel
theorem dX13_init_194 : decode cX13_init 194 = .ok (.aload_n 0, 1) := by decide +kernel
theorem dX13_init_195 : decode cX13_init 195 = .ok (.sipush 170, 3) := by decide +kernel
theorem dX13_init_198 : decode cX13_init 198 = .ok (.newarray .boolean, 2) := by decide +kernel
theorem dX13_init_200 : decode cX13_init 200 = .ok (.putfield 82, 3) := by decide +kernel
theorem dX13_init_203 : decode cX13_init 203 = .ok (.aload_n 0, 1) := by decide +kernel
theorem dX13_init_204 : decode cX13_init 204 = .ok (.sipush 170, 3) := by decide +kernel
theorem dX13_init_207 : decode cX13_init 207 = .ok (.newarray .int, 2) := by decide +kernel
theorem dX13_init_209 : decode cX13_init 209 = .ok (.putfield 85, 3) := by decide +kernel
theorem dX13_init_212 : decode cX13_init 212 = .ok (.aload_n 0, 1) := by decide +kernel
theorem dX13_init_213 : decode cX13_init 213 = .ok (.sipush 170, 3) := by decide +kernel
theorem dX13_init_216 : decode cX13_init 216 = .ok (.newarray .int, 2) := by decide +kernel
theorem dX13_init_218 : decode cX13_init 218 = .ok (.putfield 88, 3) := by decide +kernel
theorem dX13_init_221 : decode cX13_init 221 = .ok (.aload_n 0, 1) := by decide +kernel
theorem dX13_init_222 : decode cX13_init 222 = .ok (.sipush 170, 3) := by decide +kernel
theorem dX13_init_225 : decode cX13_init 225 = .ok (.newarray .int, 2) := by decide +kernel
theorem dX13_init_227 : decode cX13_init 227 = .ok (.putfield 91, 3) := by decide +kernel
theorem dX13_init_230 : decode cX13_init 230 = .ok (.aload_n 0, 1) := by decide +kernel
theorem dX13_init_231 : decode cX13_init 231 = .ok (.sipush 170, 3) := by decide +kernel
theorem dX13_init_234 : decode cX13_init 234 = .ok (.newarray .int, 2) := by decide +kernel
theorem dX13_init_236 : decode cX13_init 236 = .ok (.putfield 94, 3) := by decide +kernel
theorem dX13_init_239 : decode cX13_init 239 = .ok (.aload_n 0, 1) := by decide +kernel
theorem dX13_init_240 : decode cX13_init 240 = .ok (.sipush 170, 3) := by decide +kernel
theorem dX13_init_243 : decode cX13_init 243 = .ok (.newarray .int, 2) := by decide +kernel
theorem dX13_init_245 : decode cX13_init 245 = .ok (.putfield 97, 3) := by decide +kernel
theorem dX13_init_248 : decode cX13_init 248 = .ok (.aload_n 0, 1) := by decide +kernel
theorem dX13_init_249 : decode cX13_init 249 = .ok (.sipush 170, 3) := by decide +kernel
theorem dX13_init_252 : decode cX13_init 252 = .ok (.newarray .int, 2) := by decide +kernel
theorem dX13_init_254 : decode cX13_init 254 = .ok (.putfield 100, 3) := by decide +kernel
theorem dX13_init_257 : decode cX13_init 257 = .ok (.aload_n 0, 1) := by decide +kernel
theorem dX13_init_258 : decode cX13_init 258 = .ok (.bipush 50, 2) := by decide +kernel
theorem dX13_init_260 : decode cX13_init 260 = .ok (.newarray .int, 2) := by decide +kernel
theorem dX13_init_262 : decode cX13_init 262 = .ok (.putfield 103, 3) := by decide +kernel
theorem dX13_init_265 : decode cX13_init 265 = .ok (.aload_n 0, 1) := by decide +kernel
theorem dX13_init_266 : decode cX13_init 266 = .ok (.bipush 50, 2) := by decide +kernel
theorem dX13_init_268 : decode cX13_init 268 = .ok (.newarray .int, 2) := by decide +kernel
theorem dX13_init_270 : decode cX13_init 270 = .ok (.putfield 106, 3) := by decide +kernel
theorem dX13_init_273 : decode cX13_init 273 = .ok (.aload_n 0, 1) := by decide +kernel
theorem dX13_init_274 : decode cX13_init 274 = .ok (.sipush 170, 3) := by decide +kernel
theorem dX13_init_277 : decode cX13_init 277 = .ok (.newarray .int, 2) := by decide +kernel
theorem dX13_init_279 : decode cX13_init 279 = .ok (.putfield 109, 3) := by decide +kernel
theorem dX13_init_282 : decode cX13_init 282 = .ok (.aload_n 0, 1) := by decide +kernel
theorem dX13_init_283 : decode cX13_init 283 = .ok (.sipush 170, 3) := by decide +kernel
theorem dX13_init_286 : decode cX13_init 286 = .ok (.newarray .int, 2) := by decide +kernel
theorem dX13_init_288 : decode cX13_init 288 = .ok (.putfield 112, 3) := by decide +kernel
theorem dX13_init_291 : decode cX13_init 291 = .ok (.aload_n 0, 1) := by decide +kernel
theorem dX13_init_292 : decode cX13_init 292 = .ok (.sipush 170, 3) := by decide +kernel
theorem dX13_init_295 : decode cX13_init 295 = .ok (.newarray .int, 2) := by decide +kernel
theorem dX13_init_297 : decode cX13_init 297 = .ok (.putfield 115, 3) := by decide +kernel
theorem dX13_init_300 : decode cX13_init 300 = .ok (.aload_n 0, 1) := by decide +kernel
theorem dX13_init_301 : decode cX13_init 301 = .ok (.sipush 170, 3) := by decide +kernel
theorem dX13_init_304 : decode cX13_init 304 = .ok (.newarray .int, 2) := by decide +kernel
theorem dX13_init_306 : decode cX13_init 306 = .ok (.putfield 118, 3) := by decide +kernel
theorem dX13_init_309 : decode cX13_init 309 = .ok (.aload_n 0, 1) := by decide +kernel
theorem dX13_init_310 : decode cX13_init 310 = .ok (.sipush 400, 3) := by decide +kernel
theorem dX13_init_313 : decode cX13_init 313 = .ok (.newarray .int, 2) := by decide +kernel
theorem dX13_init_315 : decode cX13_init 315 = .ok (.putfield 121, 3) := by decide +kernel
theorem dX13_init_318 : decode cX13_init 318 = .ok (.aload_n 0, 1) := by decide +kernel
theorem dX13_init_319 : decode cX13_init 319 = .ok (.sipush 400, 3) := by decide +kernel
theorem dX13_init_322 : decode cX13_init 322 = .ok (.newarray .int, 2) := by decide +kernel
theorem dX13_init_324 : decode cX13_init 324 = .ok (.putfield 124, 3) := by decide +kernel
theorem dX13_init_327 : decode cX13_init 327 = .ok (.aload_n 0, 1) := by decide +kernel
theorem dX13_init_328 : decode cX13_init 328 = .ok (.sipush 400, 3) := by decide +kernel
theorem dX13_init_331 : decode cX13_init 331 = .ok (.newarray .int, 2) := by decide +kernel
theorem dX13_init_333 : decode cX13_init 333 = .ok (.putfield 127, 3) := by decide +kernel
theorem dX13_init_336 : decode cX13_init 336 = .ok (.aload_n 0, 1) := by decide +kernel
theorem dX13_init_337 : decode cX13_init 337 = .ok (.bipush 8, 2) := by decide +kernel
theorem dX13_init_339 : decode cX13_init 339 = .ok (.newarray .int, 2) := by decide +kernel
theorem dX13_init_341 : decode cX13_init 341 = .ok (.putfield 130, 3) := by decide +kernel
theorem dX13_init_344 : decode cX13_init 344 = .ok (.aload_n 0, 1) := by decide +kernel
theorem dX13_init_345 : decode cX13_init 345 = .ok (.bipush 8, 2) := by decide +kernel
theorem dX13_init_347 : decode cX13_init 347 = .ok (.newarray .int, 2) := by decide +kernel
theorem dX13_init_349 : decode cX13_init 349 = .ok (.putfield 133, 3) := by decide +kernel
theorem dX13_init_352 : decode cX13_init 352 = .ok (.aload_n 0, 1) := by decide +kernel
theorem dX13_init_353 : decode cX13_init 353 = .ok (.bipush 8, 2) := by decide +kernel
theorem dX13_init_355 : decode cX13_init 355 = .ok (.newarray .int, 2) := by decide +kernel
theorem dX13_init_357 : decode cX13_init 357 = .ok (.putfield 136, 3) := by decide +kernel
theorem dX13_init_360 : decode cX13_init 360 = .ok (.aload_n 0, 1) := by decide +kernel
theorem dX13_init_361 : decode cX13_init 361 = .ok (.bipush 8, 2) := by decide +kernel
theorem dX13_init_363 : decode cX13_init 363 = .ok (.newarray .int, 2) := by decide +kernel
theorem dX13_init_365 : decode cX13_init 365 = .ok (.putfield 139, 3) := by decide +kernel
theorem dX13_init_368 : decode cX13_init 368 = .ok (.aload_n 0, 1) := by decide +kernel
theorem dX13_init_369 : decode cX13_init 369 = .ok (.bipush 8, 2) := by decide +kernel
theorem dX13_init_371 : decode cX13_init 371 = .ok (.newarray .int, 2) := by decide +kernel
theorem dX13_init_373 : decode cX13_init 373 = .ok (.putfield 142, 3) := by decide +kernel
theorem dX13_init_376 : decode cX13_init 376 = .ok (.aload_n 0, 1) := by decide +kernel
theorem dX13_init_377 : decode cX13_init 377 = .ok (.bipush 8, 2) := by decide +kernel
theorem dX13_init_379 : decode cX13_init 379 = .ok (.newarray .int, 2) := by decide +kernel
theorem dX13_init_381 : decode cX13_init 381 = .ok (.putfield 145, 3) := by decide +kernel
theorem dX13_init_384 : decode cX13_init 384 = .ok (.aload_n 0, 1) := by decide +kernel
theorem dX13_init_385 : decode cX13_init 385 = .ok (.bipush 8, 2) := by decide +kernel
theorem dX13_init_387 : decode cX13_init 387 = .ok (.newarray .int, 2) := by decide +kernel
theorem dX13_init_389 : decode cX13_init 389 = .ok (.putfield 148, 3) := by decide +kernel
theorem dX13_init_392 : decode cX13_init 392 = .ok (.aload_n 0, 1) := by decide +kernel
theorem dX13_init_393 : decode cX13_init 393 = .ok (.bipush 8, 2) := by decide +kernel
theorem dX13_init_395 : decode cX13_init 395 = .ok (.newarray .int, 2) := by decide +kernel
theorem dX13_init_397 : decode cX13_init 397 = .ok (.putfield 151, 3) := by decide +kernel
theorem dX13_init_400 : decode cX13_init 400 = .ok (.aload_n 0, 1) := by decide +kernel
theorem dX13_init_401 : decode cX13_init 401 = .ok (.bipush 8, 2) := by decide +kernel
theorem dX13_init_403 : decode cX13_init 403 = .ok (.newarray .int, 2) := by decide +kernel
theorem dX13_init_405 : decode cX13_init 405 = .ok (.putfield 154, 3) := by decide +kernel
theorem dX13_init_408 : decode cX13_init 408 = .ok (.aload_n 0, 1) := by decide +kernel
theorem dX13_init_409 : decode cX13_init 409 = .ok (.bipush 8, 2) := by decide +kernel
theorem dX13_init_411 : decode cX13_init 411 = .ok (.newarray .int, 2) := by decide +kernel
theorem dX13_init_413 : decode cX13_init 413 = .ok (.putfield 157, 3) := by decide +kernel
theorem dX13_init_416 : decode cX13_init 416 = .ok (.aload_n 0, 1) := by decide +kernel
theorem dX13_init_417 : decode cX13_init 417 = .ok (.bipush 8, 2) := by decide +kernel
theorem dX13_init_419 : decode cX13_init 419 = .ok (.newarray .int, 2) := by decide +kernel
theorem dX13_init_421 : decode cX13_init 421 = .ok (.putfield 160, 3) := by decide +kernel
theorem dX13_init_424 : decode cX13_init 424 = .ok (.aload_n 0, 1) := by decide +kernel
theorem dX13_init_425 : decode cX13_init 425 = .ok (.bipush 8, 2) := by decide +kernel
theorem dX13_init_427 : decode cX13_init 427 = .ok (.newarray .int, 2) := by decide +kernel
theorem dX13_init_429 : decode cX13_init 429 = .ok (.putfield 163, 3) := by decide +kernel
theorem dX13_init_432 : decode cX13_init 432 = .ok (.aload_n 0, 1) := by decide +kernel
theorem dX13_init_433 : decode cX13_init 433 = .ok (.sipush 2400, 3) := by decide +kernel
theorem dX13_init_436 : decode cX13_init 436 = .ok (.newarray .int, 2) := by decide +kernel
theorem dX13_init_438 : decode cX13_init 438 = .ok (.putfield 166, 3) := by decide +kernel
theorem dX13_init_441 : decode cX13_init 441 = .ok (.aload_n 0, 1) := by decide +kernel
theorem dX13_init_442 : decode cX13_init 442 = .ok (.sipush 2400, 3) := by decide +kernel
theorem dX13_init_445 : decode cX13_init 445 = .ok (.newarray .int, 2) := by decide +kernel
theorem dX13_init_447 : decode cX13_init 447 = .ok (.putfield 169, 3) := by decide +kernel
theorem dX13_init_450 : decode cX13_init 450 = .ok (.aload_n 0, 1) := by decide +kernel
theorem dX13_init_451 : decode cX13_init 451 = .ok (.bipush 100, 2) := by decide +kernel
theorem dX13_init_453 : decode cX13_init 453 = .ok (.newarray .int, 2) := by decide +kernel
theorem dX13_init_455 : decode cX13_init 455 = .ok (.putfield 172, 3) := by decide +kernel
theorem dX13_init_458 : decode cX13_init 458 = .ok (.aload_n 0, 1) := by decide +kernel
theorem dX13_init_459 : decode cX13_init 459 = .ok (.bipush 100, 2) := by decide +kernel
theorem dX13_init_461 : decode cX13_init 461 = .ok (.newarray .int, 2) := by decide +kernel
theorem dX13_init_463 : decode cX13_init 463 = .ok (.putfield 175, 3) := by decide +kernel
theorem dX13_init_466 : decode cX13_init 466 = .ok (.aload_n 0, 1) := by decide +kernel
theorem dX13_init_467 : decode cX13_init 467 = .ok (.bipush 100, 2) := by decide +kernel
theorem dX13_init_469 : decode cX13_init 469 = .ok (.newarray .int, 2) := by decide +kernel
theorem dX13_init_471 : decode cX13_init 471 = .ok (.putfield 178, 3) := by decide +kernel
theorem dX13_init_474 : decode cX13_init 474 = .ok (.aload_n 0, 1) := by decide +kernel
theorem dX13_init_475 : decode cX13_init 475 = .ok (.sipush 200, 3) := by decide +kernel
theorem dX13_init_478 : decode cX13_init 478 = .ok (.newarray .int, 2) := by decide +kernel
theorem dX13_init_480 : decode cX13_init 480 = .ok (.putfield 181, 3) := by decide +kernel
theorem dX13_init_483 : decode cX13_init 483 = .ok (.aload_n 0, 1) := by decide +kernel
theorem dX13_init_484 : decode cX13_init 484 = .ok (.sipush 200, 3) := by decide +kernel
theorem dX13_init_487 : decode cX13_init 487 = .ok (.newarray .int, 2) := by decide +kernel
theorem dX13_init_489 : decode cX13_init 489 = .ok (.putfield 184, 3) := by decide +kernel
theorem dX13_init_492 : decode cX13_init 492 = .ok (.aload_n 0, 1) := by decide +kernel
theorem dX13_init_493 : decode cX13_init 493 = .ok (.sipush 300, 3) := by decide +kernel
theorem dX13_init_496 : decode cX13_init 496 = .ok (.newarray .int, 2) := by decide +kernel
theorem dX13_init_498 : decode cX13_init 498 = .ok (.putfield 187, 3) := by decide +kernel
theorem dX13_init_501 : decode cX13_init 501 = .ok (.aload_n 0, 1) := by decide +kernel
theorem dX13_init_502 : decode cX13_init 502 = .ok (.sipush 400, 3) := by decide +kernel
theorem dX13_init_505 : decode cX13_init 505 = .ok (.newarray .byte, 2) := by decide +kernel
theorem dX13_init_507 : decode cX13_init 507 = .ok (.putfield 190, 3) := by decide +kernel
theorem dX13_init_510 : decode cX13_init 510 = .ok (.return_, 1) := by decide +kernel
def w_X13_init (l : Launch) (G : mv_G) (d : Nat) (u0 : Nat) (h : mv_H) (Q : mv_O → mv_H → Prop) : Prop :=
  vnw h 160 (.inl (mv_t G 0, 160, .inl (fun _ => 0))) fun a8 h8 =>
  vpu G h8 u0 15 1 (.ref a8) fun h10 =>
  vpu G h10 u0 15 3 (.int (-1)) fun h15 =>
  vnw h15 160 (.inl (mv_t G 0, 160, .inl (fun _ => 0))) fun a22 h22 =>
  vpu G h22 u0 15 4 (.ref a22) fun h24 =>
  vnw h24 160 (.inl (mv_t G 0, 160, .inl (fun _ => 0))) fun a31 h31 =>
  vpu G h31 u0 15 11 (.ref a31) fun h33 =>
  vnw h33 41 (.inl (mv_t G 1, 41, .inl (fun _ => 0))) fun a39 h39 =>
  vpu G h39 u0 15 12 (.ref a39) fun h41 =>
  vnw h41 41 (.inl (mv_t G 1, 41, .inl (fun _ => 0))) fun a47 h47 =>
  vpu G h47 u0 15 13 (.ref a47) fun h49 =>
  vnw h49 41 (.inl (mv_t G 1, 41, .inl (fun _ => 0))) fun a55 h55 =>
  vpu G h55 u0 15 14 (.ref a55) fun h57 =>
  vnw h57 41 (.inl (mv_t G 1, 41, .inl (fun _ => 0))) fun a63 h63 =>
  vpu G h63 u0 15 15 (.ref a63) fun h65 =>
  vnw h65 41 (.inl (mv_t G 1, 41, .inl (fun _ => 0))) fun a71 h71 =>
  vpu G h71 u0 15 16 (.ref a71) fun h73 =>
  vnw h73 41 (.inl (mv_t G 1, 41, .inl (fun _ => 0))) fun a79 h79 =>
  vpu G h79 u0 15 17 (.ref a79) fun h81 =>
  vnw h81 41 (.inl (mv_t G 1, 41, .inl (fun _ => 0))) fun a87 h87 =>
  vpu G h87 u0 15 18 (.ref a87) fun h89 =>
  vnw h89 41 (.inl (mv_t G 1, 41, .inl (fun _ => 0))) fun a95 h95 =>
  vpu G h95 u0 15 19 (.ref a95) fun h97 =>
  vnw h97 8 (.inl (mv_t G 1, 8, .inl (fun _ => 0))) fun a103 h103 =>
  vpu G h103 u0 15 20 (.ref a103) fun h105 =>
  vnw h105 160 (.inl (mv_t G 0, 160, .inl (fun _ => 0))) fun a112 h112 =>
  vpu G h112 u0 15 32 (.ref a112) fun h114 =>
  vnw h114 100 (.inl (mv_t G 1, 100, .inl (fun _ => 0))) fun a120 h120 =>
  vpu G h120 u0 15 33 (.ref a120) fun h122 =>
  vnw h122 100 (.inl (mv_t G 1, 100, .inl (fun _ => 0))) fun a128 h128 =>
  vpu G h128 u0 15 34 (.ref a128) fun h130 =>
  vnw h130 100 (.inl (mv_t G 1, 100, .inl (fun _ => 0))) fun a136 h136 =>
  vpu G h136 u0 15 35 (.ref a136) fun h138 =>
  vnw h138 100 (.inl (mv_t G 2, 100, .inl (fun _ => 0))) fun a144 h144 =>
  vpu G h144 u0 15 36 (.ref a144) fun h146 =>
  vnw h146 170 (.inl (mv_t G 1, 170, .inl (fun _ => 0))) fun a153 h153 =>
  vpu G h153 u0 15 37 (.ref a153) fun h155 =>
  vnw h155 170 (.inl (mv_t G 1, 170, .inl (fun _ => 0))) fun a162 h162 =>
  vpu G h162 u0 15 38 (.ref a162) fun h164 =>
  vnw h164 170 (.inl (mv_t G 1, 170, .inl (fun _ => 0))) fun a171 h171 =>
  vpu G h171 u0 15 39 (.ref a171) fun h173 =>
  vnw h173 170 (.inl (mv_t G 1, 170, .inl (fun _ => 0))) fun a180 h180 =>
  vpu G h180 u0 15 40 (.ref a180) fun h182 =>
  vnw h182 170 (.inl (mv_t G 1, 170, .inl (fun _ => 0))) fun a189 h189 =>
  vpu G h189 u0 15 41 (.ref a189) fun h191 =>
  vnw h191 170 (.inl (mv_t G 2, 170, .inl (fun _ => 0))) fun a198 h198 =>
  vpu G h198 u0 15 42 (.ref a198) fun h200 =>
  vnw h200 170 (.inl (mv_t G 1, 170, .inl (fun _ => 0))) fun a207 h207 =>
  vpu G h207 u0 15 43 (.ref a207) fun h209 =>
  vnw h209 170 (.inl (mv_t G 1, 170, .inl (fun _ => 0))) fun a216 h216 =>
  vpu G h216 u0 15 44 (.ref a216) fun h218 =>
  vnw h218 170 (.inl (mv_t G 1, 170, .inl (fun _ => 0))) fun a225 h225 =>
  vpu G h225 u0 15 45 (.ref a225) fun h227 =>
  vnw h227 170 (.inl (mv_t G 1, 170, .inl (fun _ => 0))) fun a234 h234 =>
  vpu G h234 u0 15 46 (.ref a234) fun h236 =>
  vnw h236 170 (.inl (mv_t G 1, 170, .inl (fun _ => 0))) fun a243 h243 =>
  vpu G h243 u0 15 47 (.ref a243) fun h245 =>
  vnw h245 170 (.inl (mv_t G 1, 170, .inl (fun _ => 0))) fun a252 h252 =>
  vpu G h252 u0 15 48 (.ref a252) fun h254 =>
  vnw h254 50 (.inl (mv_t G 1, 50, .inl (fun _ => 0))) fun a260 h260 =>
  vpu G h260 u0 15 49 (.ref a260) fun h262 =>
  vnw h262 50 (.inl (mv_t G 1, 50, .inl (fun _ => 0))) fun a268 h268 =>
  vpu G h268 u0 15 50 (.ref a268) fun h270 =>
  vnw h270 170 (.inl (mv_t G 1, 170, .inl (fun _ => 0))) fun a277 h277 =>
  vpu G h277 u0 15 51 (.ref a277) fun h279 =>
  vnw h279 170 (.inl (mv_t G 1, 170, .inl (fun _ => 0))) fun a286 h286 =>
  vpu G h286 u0 15 52 (.ref a286) fun h288 =>
  vnw h288 170 (.inl (mv_t G 1, 170, .inl (fun _ => 0))) fun a295 h295 =>
  vpu G h295 u0 15 53 (.ref a295) fun h297 =>
  vnw h297 170 (.inl (mv_t G 1, 170, .inl (fun _ => 0))) fun a304 h304 =>
  vpu G h304 u0 15 54 (.ref a304) fun h306 =>
  vnw h306 400 (.inl (mv_t G 1, 400, .inl (fun _ => 0))) fun a313 h313 =>
  vpu G h313 u0 15 56 (.ref a313) fun h315 =>
  vnw h315 400 (.inl (mv_t G 1, 400, .inl (fun _ => 0))) fun a322 h322 =>
  vpu G h322 u0 15 57 (.ref a322) fun h324 =>
  vnw h324 400 (.inl (mv_t G 1, 400, .inl (fun _ => 0))) fun a331 h331 =>
  vpu G h331 u0 15 58 (.ref a331) fun h333 =>
  vnw h333 8 (.inl (mv_t G 1, 8, .inl (fun _ => 0))) fun a339 h339 =>
  vpu G h339 u0 15 62 (.ref a339) fun h341 =>
  vnw h341 8 (.inl (mv_t G 1, 8, .inl (fun _ => 0))) fun a347 h347 =>
  vpu G h347 u0 15 63 (.ref a347) fun h349 =>
  vnw h349 8 (.inl (mv_t G 1, 8, .inl (fun _ => 0))) fun a355 h355 =>
  vpu G h355 u0 15 64 (.ref a355) fun h357 =>
  vnw h357 8 (.inl (mv_t G 1, 8, .inl (fun _ => 0))) fun a363 h363 =>
  vpu G h363 u0 15 65 (.ref a363) fun h365 =>
  vnw h365 8 (.inl (mv_t G 1, 8, .inl (fun _ => 0))) fun a371 h371 =>
  vpu G h371 u0 15 66 (.ref a371) fun h373 =>
  vnw h373 8 (.inl (mv_t G 1, 8, .inl (fun _ => 0))) fun a379 h379 =>
  vpu G h379 u0 15 67 (.ref a379) fun h381 =>
  vnw h381 8 (.inl (mv_t G 1, 8, .inl (fun _ => 0))) fun a387 h387 =>
  vpu G h387 u0 15 68 (.ref a387) fun h389 =>
  vnw h389 8 (.inl (mv_t G 1, 8, .inl (fun _ => 0))) fun a395 h395 =>
  vpu G h395 u0 15 69 (.ref a395) fun h397 =>
  vnw h397 8 (.inl (mv_t G 1, 8, .inl (fun _ => 0))) fun a403 h403 =>
  vpu G h403 u0 15 70 (.ref a403) fun h405 =>
  vnw h405 8 (.inl (mv_t G 1, 8, .inl (fun _ => 0))) fun a411 h411 =>
  vpu G h411 u0 15 71 (.ref a411) fun h413 =>
  vnw h413 8 (.inl (mv_t G 1, 8, .inl (fun _ => 0))) fun a419 h419 =>
  vpu G h419 u0 15 72 (.ref a419) fun h421 =>
  vnw h421 8 (.inl (mv_t G 1, 8, .inl (fun _ => 0))) fun a427 h427 =>
  vpu G h427 u0 15 73 (.ref a427) fun h429 =>
  vnw h429 2400 (.inl (mv_t G 1, 2400, .inl (fun _ => 0))) fun a436 h436 =>
  vpu G h436 u0 15 74 (.ref a436) fun h438 =>
  vnw h438 2400 (.inl (mv_t G 1, 2400, .inl (fun _ => 0))) fun a445 h445 =>
  vpu G h445 u0 15 75 (.ref a445) fun h447 =>
  vnw h447 100 (.inl (mv_t G 1, 100, .inl (fun _ => 0))) fun a453 h453 =>
  vpu G h453 u0 15 77 (.ref a453) fun h455 =>
  vnw h455 100 (.inl (mv_t G 1, 100, .inl (fun _ => 0))) fun a461 h461 =>
  vpu G h461 u0 15 78 (.ref a461) fun h463 =>
  vnw h463 100 (.inl (mv_t G 1, 100, .inl (fun _ => 0))) fun a469 h469 =>
  vpu G h469 u0 15 79 (.ref a469) fun h471 =>
  vnw h471 200 (.inl (mv_t G 1, 200, .inl (fun _ => 0))) fun a478 h478 =>
  vpu G h478 u0 15 80 (.ref a478) fun h480 =>
  vnw h480 200 (.inl (mv_t G 1, 200, .inl (fun _ => 0))) fun a487 h487 =>
  vpu G h487 u0 15 81 (.ref a487) fun h489 =>
  vnw h489 300 (.inl (mv_t G 1, 300, .inl (fun _ => 0))) fun a496 h496 =>
  vpu G h496 u0 15 83 (.ref a496) fun h498 =>
  vnw h498 400 (.inl (mv_t G 0, 400, .inl (fun _ => 0))) fun a505 h505 =>
  vpu G h505 u0 15 85 (.ref a505) fun h507 =>
  Q (.inl none) h507
theorem v_X13_init {l : Launch} {G : mv_G} {d : Nat} {u0 : Nat} {h : mv_H} {Q : mv_O → mv_H → Prop} (hG : mv_ok G) (hq : w_X13_init l G d u0 h Q) : mv_rq l G mX13_init (d + 1) 0 (mv_in [.ref u0] 1) [] h Q := by
  unfold w_X13_init at hq
  show mv_rq l G mX13_init (d + 1) 0 [some (.ref u0)] [] h _
  refine q_aload_n dX13_init_0 rfl ?_
  refine q_objI dX13_init_1 ml_RX13_1 obj_in obj_co rfl (Nat.le_of_ble_eq_true rfl) ?_
  refine q_aload_n dX13_init_4 rfl ?_
  refine q_sipush (v := 160) dX13_init_5 (by decide) ?_
  obtain ⟨a8, h8, ea8, eh8, hq⟩ := vnw_e hq
  refine q_newa (t0 := 0) (N := 160) (a0 := (160, .inl (fun _ => 0))) dX13_init_8 rfl (fun _ z => nomatch z) arr_byte (mv_tB hG) rfl (by decide) (by decide) (by decide) ?_
  rw [← eh8, ← ea8]
  show mv_rq l G mX13_init (d + 1) 10 [some (.ref u0)] [.ref a8, .ref u0] h8 _
  obtain ⟨fs10, h10, f10, b10, l10, e10, hq⟩ := vpu_e hq
  refine q_putF (k := 1) (T := TX13) (C0 := RX13) (N := 88) (ci := 15) (ty := (.array .byte)) tyX13 tyX13_ok nmX13 dX13_init_10 fl_RX13_7 rfl uin_RX13 (by decide) rfl rfl rfl rfl (by decide +kernel) rfl rfl b10 f10 l10 ?_
  rw [← e10]
  show mv_rq l G mX13_init (d + 1) 13 [some (.ref u0)] [] h10 _
  refine q_aload_n dX13_init_13 rfl ?_
  refine q_iconst (v := (-1)) dX13_init_14 (by decide) ?_
  obtain ⟨fs15, h15, f15, b15, l15, e15, hq⟩ := vpu_e hq
  refine q_putf (k := 3) (T := TX13) (C0 := RX13) (N := 88) (ci := 15) (ty := .int) tyX13 tyX13_ok nmX13 dX13_init_15 fl_RX13_13 rfl uin_RX13 (by decide) rfl rfl (by decide +kernel) rfl rfl b15 f15 l15 ?_
  rw [← e15]
  show mv_rq l G mX13_init (d + 1) 18 [some (.ref u0)] [] h15 _
  refine q_aload_n dX13_init_18 rfl ?_
  refine q_sipush (v := 160) dX13_init_19 (by decide) ?_
  obtain ⟨a22, h22, ea22, eh22, hq⟩ := vnw_e hq
  refine q_newa (t0 := 0) (N := 160) (a0 := (160, .inl (fun _ => 0))) dX13_init_22 rfl (fun _ z => nomatch z) arr_byte (mv_tB hG) rfl (by decide) (by decide) (by decide) ?_
  rw [← eh22, ← ea22]
  show mv_rq l G mX13_init (d + 1) 24 [some (.ref u0)] [.ref a22, .ref u0] h22 _
  obtain ⟨fs24, h24, f24, b24, l24, e24, hq⟩ := vpu_e hq
  refine q_putF (k := 4) (T := TX13) (C0 := RX13) (N := 88) (ci := 15) (ty := (.array .byte)) tyX13 tyX13_ok nmX13 dX13_init_24 fl_RX13_17 rfl uin_RX13 (by decide) rfl rfl rfl rfl (by decide +kernel) rfl rfl b24 f24 l24 ?_
  rw [← e24]
  show mv_rq l G mX13_init (d + 1) 27 [some (.ref u0)] [] h24 _
  refine q_aload_n dX13_init_27 rfl ?_
  refine q_sipush (v := 160) dX13_init_28 (by decide) ?_
  obtain ⟨a31, h31, ea31, eh31, hq⟩ := vnw_e hq
  refine q_newa (t0 := 0) (N := 160) (a0 := (160, .inl (fun _ => 0))) dX13_init_31 rfl (fun _ z => nomatch z) arr_byte (mv_tB hG) rfl (by decide) (by decide) (by decide) ?_
  rw [← eh31, ← ea31]
  show mv_rq l G mX13_init (d + 1) 33 [some (.ref u0)] [.ref a31, .ref u0] h31 _
  obtain ⟨fs33, h33, f33, b33, l33, e33, hq⟩ := vpu_e hq
  refine q_putF (k := 11) (T := TX13) (C0 := RX13) (N := 88) (ci := 15) (ty := (.array .byte)) tyX13 tyX13_ok nmX13 dX13_init_33 fl_RX13_20 rfl uin_RX13 (by decide) rfl rfl rfl rfl (by decide +kernel) rfl rfl b33 f33 l33 ?_
  rw [← e33]
  show mv_rq l G mX13_init (d + 1) 36 [some (.ref u0)] [] h33 _
  refine q_aload_n dX13_init_36 rfl ?_
  refine q_bipush (v := 41) dX13_init_37 (by decide) ?_
  obtain ⟨a39, h39, ea39, eh39, hq⟩ := vnw_e hq
  refine q_newa (t0 := 1) (N := 41) (a0 := (41, .inl (fun _ => 0))) dX13_init_39 rfl (fun _ z => nomatch z) arr_int (mv_tI hG) rfl (by decide) (by decide) (by decide) ?_
  rw [← eh39, ← ea39]
  show mv_rq l G mX13_init (d + 1) 41 [some (.ref u0)] [.ref a39, .ref u0] h39 _
  obtain ⟨fs41, h41, f41, b41, l41, e41, hq⟩ := vpu_e hq
  refine q_putF (k := 12) (T := TX13) (C0 := RX13) (N := 88) (ci := 15) (ty := (.array .int)) tyX13 tyX13_ok nmX13 dX13_init_41 fl_RX13_23 rfl uin_RX13 (by decide) rfl rfl rfl rfl (by decide +kernel) rfl rfl b41 f41 l41 ?_
  rw [← e41]
  show mv_rq l G mX13_init (d + 1) 44 [some (.ref u0)] [] h41 _
  refine q_aload_n dX13_init_44 rfl ?_
  refine q_bipush (v := 41) dX13_init_45 (by decide) ?_
  obtain ⟨a47, h47, ea47, eh47, hq⟩ := vnw_e hq
  refine q_newa (t0 := 1) (N := 41) (a0 := (41, .inl (fun _ => 0))) dX13_init_47 rfl (fun _ z => nomatch z) arr_int (mv_tI hG) rfl (by decide) (by decide) (by decide) ?_
  rw [← eh47, ← ea47]
  show mv_rq l G mX13_init (d + 1) 49 [some (.ref u0)] [.ref a47, .ref u0] h47 _
  obtain ⟨fs49, h49, f49, b49, l49, e49, hq⟩ := vpu_e hq
  refine q_putF (k := 13) (T := TX13) (C0 := RX13) (N := 88) (ci := 15) (ty := (.array .int)) tyX13 tyX13_ok nmX13 dX13_init_49 fl_RX13_27 rfl uin_RX13 (by decide) rfl rfl rfl rfl (by decide +kernel) rfl rfl b49 f49 l49 ?_
  rw [← e49]
  show mv_rq l G mX13_init (d + 1) 52 [some (.ref u0)] [] h49 _
  refine q_aload_n dX13_init_52 rfl ?_
  refine q_bipush (v := 41) dX13_init_53 (by decide) ?_
  obtain ⟨a55, h55, ea55, eh55, hq⟩ := vnw_e hq
  refine q_newa (t0 := 1) (N := 41) (a0 := (41, .inl (fun _ => 0))) dX13_init_55 rfl (fun _ z => nomatch z) arr_int (mv_tI hG) rfl (by decide) (by decide) (by decide) ?_
  rw [← eh55, ← ea55]
  show mv_rq l G mX13_init (d + 1) 57 [some (.ref u0)] [.ref a55, .ref u0] h55 _
  obtain ⟨fs57, h57, f57, b57, l57, e57, hq⟩ := vpu_e hq
  refine q_putF (k := 14) (T := TX13) (C0 := RX13) (N := 88) (ci := 15) (ty := (.array .int)) tyX13 tyX13_ok nmX13 dX13_init_57 fl_RX13_30 rfl uin_RX13 (by decide) rfl rfl rfl rfl (by decide +kernel) rfl rfl b57 f57 l57 ?_
  rw [← e57]
  show mv_rq l G mX13_init (d + 1) 60 [some (.ref u0)] [] h57 _
  refine q_aload_n dX13_init_60 rfl ?_
  refine q_bipush (v := 41) dX13_init_61 (by decide) ?_
  obtain ⟨a63, h63, ea63, eh63, hq⟩ := vnw_e hq
  refine q_newa (t0 := 1) (N := 41) (a0 := (41, .inl (fun _ => 0))) dX13_init_63 rfl (fun _ z => nomatch z) arr_int (mv_tI hG) rfl (by decide) (by decide) (by decide) ?_
  rw [← eh63, ← ea63]
  show mv_rq l G mX13_init (d + 1) 65 [some (.ref u0)] [.ref a63, .ref u0] h63 _
  obtain ⟨fs65, h65, f65, b65, l65, e65, hq⟩ := vpu_e hq
  refine q_putF (k := 15) (T := TX13) (C0 := RX13) (N := 88) (ci := 15) (ty := (.array .int)) tyX13 tyX13_ok nmX13 dX13_init_65 fl_RX13_33 rfl uin_RX13 (by decide) rfl rfl rfl rfl (by decide +kernel) rfl rfl b65 f65 l65 ?_
  rw [← e65]
  show mv_rq l G mX13_init (d + 1) 68 [some (.ref u0)] [] h65 _
  refine q_aload_n dX13_init_68 rfl ?_
  refine q_bipush (v := 41) dX13_init_69 (by decide) ?_
  obtain ⟨a71, h71, ea71, eh71, hq⟩ := vnw_e hq
  refine q_newa (t0 := 1) (N := 41) (a0 := (41, .inl (fun _ => 0))) dX13_init_71 rfl (fun _ z => nomatch z) arr_int (mv_tI hG) rfl (by decide) (by decide) (by decide) ?_
  rw [← eh71, ← ea71]
  show mv_rq l G mX13_init (d + 1) 73 [some (.ref u0)] [.ref a71, .ref u0] h71 _
  obtain ⟨fs73, h73, f73, b73, l73, e73, hq⟩ := vpu_e hq
  refine q_putF (k := 16) (T := TX13) (C0 := RX13) (N := 88) (ci := 15) (ty := (.array .int)) tyX13 tyX13_ok nmX13 dX13_init_73 fl_RX13_36 rfl uin_RX13 (by decide) rfl rfl rfl rfl (by decide +kernel) rfl rfl b73 f73 l73 ?_
  rw [← e73]
  show mv_rq l G mX13_init (d + 1) 76 [some (.ref u0)] [] h73 _
  refine q_aload_n dX13_init_76 rfl ?_
  refine q_bipush (v := 41) dX13_init_77 (by decide) ?_
  obtain ⟨a79, h79, ea79, eh79, hq⟩ := vnw_e hq
  refine q_newa (t0 := 1) (N := 41) (a0 := (41, .inl (fun _ => 0))) dX13_init_79 rfl (fun _ z => nomatch z) arr_int (mv_tI hG) rfl (by decide) (by decide) (by decide) ?_
  rw [← eh79, ← ea79]
  show mv_rq l G mX13_init (d + 1) 81 [some (.ref u0)] [.ref a79, .ref u0] h79 _
  obtain ⟨fs81, h81, f81, b81, l81, e81, hq⟩ := vpu_e hq
  refine q_putF (k := 17) (T := TX13) (C0 := RX13) (N := 88) (ci := 15) (ty := (.array .int)) tyX13 tyX13_ok nmX13 dX13_init_81 fl_RX13_39 rfl uin_RX13 (by decide) rfl rfl rfl rfl (by decide +kernel) rfl rfl b81 f81 l81 ?_
  rw [← e81]
  show mv_rq l G mX13_init (d + 1) 84 [some (.ref u0)] [] h81 _
  refine q_aload_n dX13_init_84 rfl ?_
  refine q_bipush (v := 41) dX13_init_85 (by decide) ?_
  obtain ⟨a87, h87, ea87, eh87, hq⟩ := vnw_e hq
  refine q_newa (t0 := 1) (N := 41) (a0 := (41, .inl (fun _ => 0))) dX13_init_87 rfl (fun _ z => nomatch z) arr_int (mv_tI hG) rfl (by decide) (by decide) (by decide) ?_
  rw [← eh87, ← ea87]
  show mv_rq l G mX13_init (d + 1) 89 [some (.ref u0)] [.ref a87, .ref u0] h87 _
  obtain ⟨fs89, h89, f89, b89, l89, e89, hq⟩ := vpu_e hq
  refine q_putF (k := 18) (T := TX13) (C0 := RX13) (N := 88) (ci := 15) (ty := (.array .int)) tyX13 tyX13_ok nmX13 dX13_init_89 fl_RX13_42 rfl uin_RX13 (by decide) rfl rfl rfl rfl (by decide +kernel) rfl rfl b89 f89 l89 ?_
  rw [← e89]
  show mv_rq l G mX13_init (d + 1) 92 [some (.ref u0)] [] h89 _
  refine q_aload_n dX13_init_92 rfl ?_
  refine q_bipush (v := 41) dX13_init_93 (by decide) ?_
  obtain ⟨a95, h95, ea95, eh95, hq⟩ := vnw_e hq
  refine q_newa (t0 := 1) (N := 41) (a0 := (41, .inl (fun _ => 0))) dX13_init_95 rfl (fun _ z => nomatch z) arr_int (mv_tI hG) rfl (by decide) (by decide) (by decide) ?_
  rw [← eh95, ← ea95]
  show mv_rq l G mX13_init (d + 1) 97 [some (.ref u0)] [.ref a95, .ref u0] h95 _
  obtain ⟨fs97, h97, f97, b97, l97, e97, hq⟩ := vpu_e hq
  refine q_putF (k := 19) (T := TX13) (C0 := RX13) (N := 88) (ci := 15) (ty := (.array .int)) tyX13 tyX13_ok nmX13 dX13_init_97 fl_RX13_45 rfl uin_RX13 (by decide) rfl rfl rfl rfl (by decide +kernel) rfl rfl b97 f97 l97 ?_
  rw [← e97]
  show mv_rq l G mX13_init (d + 1) 100 [some (.ref u0)] [] h97 _
  refine q_aload_n dX13_init_100 rfl ?_
  refine q_bipush (v := 8) dX13_init_101 (by decide) ?_
  obtain ⟨a103, h103, ea103, eh103, hq⟩ := vnw_e hq
  refine q_newa (t0 := 1) (N := 8) (a0 := (8, .inl (fun _ => 0))) dX13_init_103 rfl (fun _ z => nomatch z) arr_int (mv_tI hG) rfl (by decide) (by decide) (by decide) ?_
  rw [← eh103, ← ea103]
  show mv_rq l G mX13_init (d + 1) 105 [some (.ref u0)] [.ref a103, .ref u0] h103 _
  obtain ⟨fs105, h105, f105, b105, l105, e105, hq⟩ := vpu_e hq
  refine q_putF (k := 20) (T := TX13) (C0 := RX13) (N := 88) (ci := 15) (ty := (.array .int)) tyX13 tyX13_ok nmX13 dX13_init_105 fl_RX13_48 rfl uin_RX13 (by decide) rfl rfl rfl rfl (by decide +kernel) rfl rfl b105 f105 l105 ?_
  rw [← e105]
  show mv_rq l G mX13_init (d + 1) 108 [some (.ref u0)] [] h105 _
  refine q_aload_n dX13_init_108 rfl ?_
  refine q_sipush (v := 160) dX13_init_109 (by decide) ?_
  obtain ⟨a112, h112, ea112, eh112, hq⟩ := vnw_e hq
  refine q_newa (t0 := 0) (N := 160) (a0 := (160, .inl (fun _ => 0))) dX13_init_112 rfl (fun _ z => nomatch z) arr_byte (mv_tB hG) rfl (by decide) (by decide) (by decide) ?_
  rw [← eh112, ← ea112]
  show mv_rq l G mX13_init (d + 1) 114 [some (.ref u0)] [.ref a112, .ref u0] h112 _
  obtain ⟨fs114, h114, f114, b114, l114, e114, hq⟩ := vpu_e hq
  refine q_putF (k := 32) (T := TX13) (C0 := RX13) (N := 88) (ci := 15) (ty := (.array .byte)) tyX13 tyX13_ok nmX13 dX13_init_114 fl_RX13_51 rfl uin_RX13 (by decide) rfl rfl rfl rfl (by decide +kernel) rfl rfl b114 f114 l114 ?_
  rw [← e114]
  show mv_rq l G mX13_init (d + 1) 117 [some (.ref u0)] [] h114 _
  refine q_aload_n dX13_init_117 rfl ?_
  refine q_bipush (v := 100) dX13_init_118 (by decide) ?_
  obtain ⟨a120, h120, ea120, eh120, hq⟩ := vnw_e hq
  refine q_newa (t0 := 1) (N := 100) (a0 := (100, .inl (fun _ => 0))) dX13_init_120 rfl (fun _ z => nomatch z) arr_int (mv_tI hG) rfl (by decide) (by decide) (by decide) ?_
  rw [← eh120, ← ea120]
  show mv_rq l G mX13_init (d + 1) 122 [some (.ref u0)] [.ref a120, .ref u0] h120 _
  obtain ⟨fs122, h122, f122, b122, l122, e122, hq⟩ := vpu_e hq
  refine q_putF (k := 33) (T := TX13) (C0 := RX13) (N := 88) (ci := 15) (ty := (.array .int)) tyX13 tyX13_ok nmX13 dX13_init_122 fl_RX13_54 rfl uin_RX13 (by decide) rfl rfl rfl rfl (by decide +kernel) rfl rfl b122 f122 l122 ?_
  rw [← e122]
  show mv_rq l G mX13_init (d + 1) 125 [some (.ref u0)] [] h122 _
  refine q_aload_n dX13_init_125 rfl ?_
  refine q_bipush (v := 100) dX13_init_126 (by decide) ?_
  obtain ⟨a128, h128, ea128, eh128, hq⟩ := vnw_e hq
  refine q_newa (t0 := 1) (N := 100) (a0 := (100, .inl (fun _ => 0))) dX13_init_128 rfl (fun _ z => nomatch z) arr_int (mv_tI hG) rfl (by decide) (by decide) (by decide) ?_
  rw [← eh128, ← ea128]
  show mv_rq l G mX13_init (d + 1) 130 [some (.ref u0)] [.ref a128, .ref u0] h128 _
  obtain ⟨fs130, h130, f130, b130, l130, e130, hq⟩ := vpu_e hq
  refine q_putF (k := 34) (T := TX13) (C0 := RX13) (N := 88) (ci := 15) (ty := (.array .int)) tyX13 tyX13_ok nmX13 dX13_init_130 fl_RX13_57 rfl uin_RX13 (by decide) rfl rfl rfl rfl (by decide +kernel) rfl rfl b130 f130 l130 ?_
  rw [← e130]
  show mv_rq l G mX13_init (d + 1) 133 [some (.ref u0)] [] h130 _
  refine q_aload_n dX13_init_133 rfl ?_
  refine q_bipush (v := 100) dX13_init_134 (by decide) ?_
  obtain ⟨a136, h136, ea136, eh136, hq⟩ := vnw_e hq
  refine q_newa (t0 := 1) (N := 100) (a0 := (100, .inl (fun _ => 0))) dX13_init_136 rfl (fun _ z => nomatch z) arr_int (mv_tI hG) rfl (by decide) (by decide) (by decide) ?_
  rw [← eh136, ← ea136]
  show mv_rq l G mX13_init (d + 1) 138 [some (.ref u0)] [.ref a136, .ref u0] h136 _
  obtain ⟨fs138, h138, f138, b138, l138, e138, hq⟩ := vpu_e hq
  refine q_putF (k := 35) (T := TX13) (C0 := RX13) (N := 88) (ci := 15) (ty := (.array .int)) tyX13 tyX13_ok nmX13 dX13_init_138 fl_RX13_60 rfl uin_RX13 (by decide) rfl rfl rfl rfl (by decide +kernel) rfl rfl b138 f138 l138 ?_
  rw [← e138]
  show mv_rq l G mX13_init (d + 1) 141 [some (.ref u0)] [] h138 _
  refine q_aload_n dX13_init_141 rfl ?_
  refine q_bipush (v := 100) dX13_init_142 (by decide) ?_
  obtain ⟨a144, h144, ea144, eh144, hq⟩ := vnw_e hq
  refine q_newa (t0 := 2) (N := 100) (a0 := (100, .inl (fun _ => 0))) dX13_init_144 rfl (fun _ z => nomatch z) arr_boolean (mv_tZ hG) rfl (by decide) (by decide) (by decide) ?_
  rw [← eh144, ← ea144]
  show mv_rq l G mX13_init (d + 1) 146 [some (.ref u0)] [.ref a144, .ref u0] h144 _
  obtain ⟨fs146, h146, f146, b146, l146, e146, hq⟩ := vpu_e hq
  refine q_putF (k := 36) (T := TX13) (C0 := RX13) (N := 88) (ci := 15) (ty := (.array .boolean)) tyX13 tyX13_ok nmX13 dX13_init_146 fl_RX13_63 rfl uin_RX13 (by decide) rfl rfl rfl rfl (by decide +kernel) rfl rfl b146 f146 l146 ?_
  rw [← e146]
  show mv_rq l G mX13_init (d + 1) 149 [some (.ref u0)] [] h146 _
  refine q_aload_n dX13_init_149 rfl ?_
  refine q_sipush (v := 170) dX13_init_150 (by decide) ?_
  obtain ⟨a153, h153, ea153, eh153, hq⟩ := vnw_e hq
  refine q_newa (t0 := 1) (N := 170) (a0 := (170, .inl (fun _ => 0))) dX13_init_153 rfl (fun _ z => nomatch z) arr_int (mv_tI hG) rfl (by decide) (by decide) (by decide) ?_
  rw [← eh153, ← ea153]
  show mv_rq l G mX13_init (d + 1) 155 [some (.ref u0)] [.ref a153, .ref u0] h153 _
  obtain ⟨fs155, h155, f155, b155, l155, e155, hq⟩ := vpu_e hq
  refine q_putF (k := 37) (T := TX13) (C0 := RX13) (N := 88) (ci := 15) (ty := (.array .int)) tyX13 tyX13_ok nmX13 dX13_init_155 fl_RX13_67 rfl uin_RX13 (by decide) rfl rfl rfl rfl (by decide +kernel) rfl rfl b155 f155 l155 ?_
  rw [← e155]
  show mv_rq l G mX13_init (d + 1) 158 [some (.ref u0)] [] h155 _
  refine q_aload_n dX13_init_158 rfl ?_
  refine q_sipush (v := 170) dX13_init_159 (by decide) ?_
  obtain ⟨a162, h162, ea162, eh162, hq⟩ := vnw_e hq
  refine q_newa (t0 := 1) (N := 170) (a0 := (170, .inl (fun _ => 0))) dX13_init_162 rfl (fun _ z => nomatch z) arr_int (mv_tI hG) rfl (by decide) (by decide) (by decide) ?_
  rw [← eh162, ← ea162]
  show mv_rq l G mX13_init (d + 1) 164 [some (.ref u0)] [.ref a162, .ref u0] h162 _
  obtain ⟨fs164, h164, f164, b164, l164, e164, hq⟩ := vpu_e hq
  refine q_putF (k := 38) (T := TX13) (C0 := RX13) (N := 88) (ci := 15) (ty := (.array .int)) tyX13 tyX13_ok nmX13 dX13_init_164 fl_RX13_70 rfl uin_RX13 (by decide) rfl rfl rfl rfl (by decide +kernel) rfl rfl b164 f164 l164 ?_
  rw [← e164]
  show mv_rq l G mX13_init (d + 1) 167 [some (.ref u0)] [] h164 _
  refine q_aload_n dX13_init_167 rfl ?_
  refine q_sipush (v := 170) dX13_init_168 (by decide) ?_
  obtain ⟨a171, h171, ea171, eh171, hq⟩ := vnw_e hq
  refine q_newa (t0 := 1) (N := 170) (a0 := (170, .inl (fun _ => 0))) dX13_init_171 rfl (fun _ z => nomatch z) arr_int (mv_tI hG) rfl (by decide) (by decide) (by decide) ?_
  rw [← eh171, ← ea171]
  show mv_rq l G mX13_init (d + 1) 173 [some (.ref u0)] [.ref a171, .ref u0] h171 _
  obtain ⟨fs173, h173, f173, b173, l173, e173, hq⟩ := vpu_e hq
  refine q_putF (k := 39) (T := TX13) (C0 := RX13) (N := 88) (ci := 15) (ty := (.array .int)) tyX13 tyX13_ok nmX13 dX13_init_173 fl_RX13_73 rfl uin_RX13 (by decide) rfl rfl rfl rfl (by decide +kernel) rfl rfl b173 f173 l173 ?_
  rw [← e173]
  show mv_rq l G mX13_init (d + 1) 176 [some (.ref u0)] [] h173 _
  refine q_aload_n dX13_init_176 rfl ?_
  refine q_sipush (v := 170) dX13_init_177 (by decide) ?_
  obtain ⟨a180, h180, ea180, eh180, hq⟩ := vnw_e hq
  refine q_newa (t0 := 1) (N := 170) (a0 := (170, .inl (fun _ => 0))) dX13_init_180 rfl (fun _ z => nomatch z) arr_int (mv_tI hG) rfl (by decide) (by decide) (by decide) ?_
  rw [← eh180, ← ea180]
  show mv_rq l G mX13_init (d + 1) 182 [some (.ref u0)] [.ref a180, .ref u0] h180 _
  obtain ⟨fs182, h182, f182, b182, l182, e182, hq⟩ := vpu_e hq
  refine q_putF (k := 40) (T := TX13) (C0 := RX13) (N := 88) (ci := 15) (ty := (.array .int)) tyX13 tyX13_ok nmX13 dX13_init_182 fl_RX13_76 rfl uin_RX13 (by decide) rfl rfl rfl rfl (by decide +kernel) rfl rfl b182 f182 l182 ?_
  rw [← e182]
  show mv_rq l G mX13_init (d + 1) 185 [some (.ref u0)] [] h182 _
  refine q_aload_n dX13_init_185 rfl ?_
  refine q_sipush (v := 170) dX13_init_186 (by decide) ?_
  obtain ⟨a189, h189, ea189, eh189, hq⟩ := vnw_e hq
  refine q_newa (t0 := 1) (N := 170) (a0 := (170, .inl (fun _ => 0))) dX13_init_189 rfl (fun _ z => nomatch z) arr_int (mv_tI hG) rfl (by decide) (by decide) (by decide) ?_
  rw [← eh189, ← ea189]
  show mv_rq l G mX13_init (d + 1) 191 [some (.ref u0)] [.ref a189, .ref u0] h189 _
  obtain ⟨fs191, h191, f191, b191, l191, e191, hq⟩ := vpu_e hq
  refine q_putF (k := 41) (T := TX13) (C0 := RX13) (N := 88) (ci := 15) (ty := (.array .int)) tyX13 tyX13_ok nmX13 dX13_init_191 fl_RX13_79 rfl uin_RX13 (by decide) rfl rfl rfl rfl (by decide +kernel) rfl rfl b191 f191 l191 ?_
  rw [← e191]
  show mv_rq l G mX13_init (d + 1) 194 [some (.ref u0)] [] h191 _
  refine q_aload_n dX13_init_194 rfl ?_
  refine q_sipush (v := 170) dX13_init_195 (by decide) ?_
  obtain ⟨a198, h198, ea198, eh198, hq⟩ := vnw_e hq
  refine q_newa (t0 := 2) (N := 170) (a0 := (170, .inl (fun _ => 0))) dX13_init_198 rfl (fun _ z => nomatch z) arr_boolean (mv_tZ hG) rfl (by decide) (by decide) (by decide) ?_
  rw [← eh198, ← ea198]
  show mv_rq l G mX13_init (d + 1) 200 [some (.ref u0)] [.ref a198, .ref u0] h198 _
  obtain ⟨fs200, h200, f200, b200, l200, e200, hq⟩ := vpu_e hq
  refine q_putF (k := 42) (T := TX13) (C0 := RX13) (N := 88) (ci := 15) (ty := (.array .boolean)) tyX13 tyX13_ok nmX13 dX13_init_200 fl_RX13_82 rfl uin_RX13 (by decide) rfl rfl rfl rfl (by decide +kernel) rfl rfl b200 f200 l200 ?_
  rw [← e200]
  show mv_rq l G mX13_init (d + 1) 203 [some (.ref u0)] [] h200 _
  refine q_aload_n dX13_init_203 rfl ?_
  refine q_sipush (v := 170) dX13_init_204 (by decide) ?_
  obtain ⟨a207, h207, ea207, eh207, hq⟩ := vnw_e hq
  refine q_newa (t0 := 1) (N := 170) (a0 := (170, .inl (fun _ => 0))) dX13_init_207 rfl (fun _ z => nomatch z) arr_int (mv_tI hG) rfl (by decide) (by decide) (by decide) ?_
  rw [← eh207, ← ea207]
  show mv_rq l G mX13_init (d + 1) 209 [some (.ref u0)] [.ref a207, .ref u0] h207 _
  obtain ⟨fs209, h209, f209, b209, l209, e209, hq⟩ := vpu_e hq
  refine q_putF (k := 43) (T := TX13) (C0 := RX13) (N := 88) (ci := 15) (ty := (.array .int)) tyX13 tyX13_ok nmX13 dX13_init_209 fl_RX13_85 rfl uin_RX13 (by decide) rfl rfl rfl rfl (by decide +kernel) rfl rfl b209 f209 l209 ?_
  rw [← e209]
  show mv_rq l G mX13_init (d + 1) 212 [some (.ref u0)] [] h209 _
  refine q_aload_n dX13_init_212 rfl ?_
  refine q_sipush (v := 170) dX13_init_213 (by decide) ?_
  obtain ⟨a216, h216, ea216, eh216, hq⟩ := vnw_e hq
  refine q_newa (t0 := 1) (N := 170) (a0 := (170, .inl (fun _ => 0))) dX13_init_216 rfl (fun _ z => nomatch z) arr_int (mv_tI hG) rfl (by decide) (by decide) (by decide) ?_
  rw [← eh216, ← ea216]
  show mv_rq l G mX13_init (d + 1) 218 [some (.ref u0)] [.ref a216, .ref u0] h216 _
  obtain ⟨fs218, h218, f218, b218, l218, e218, hq⟩ := vpu_e hq
  refine q_putF (k := 44) (T := TX13) (C0 := RX13) (N := 88) (ci := 15) (ty := (.array .int)) tyX13 tyX13_ok nmX13 dX13_init_218 fl_RX13_88 rfl uin_RX13 (by decide) rfl rfl rfl rfl (by decide +kernel) rfl rfl b218 f218 l218 ?_
  rw [← e218]
  show mv_rq l G mX13_init (d + 1) 221 [some (.ref u0)] [] h218 _
  refine q_aload_n dX13_init_221 rfl ?_
  refine q_sipush (v := 170) dX13_init_222 (by decide) ?_
  obtain ⟨a225, h225, ea225, eh225, hq⟩ := vnw_e hq
  refine q_newa (t0 := 1) (N := 170) (a0 := (170, .inl (fun _ => 0))) dX13_init_225 rfl (fun _ z => nomatch z) arr_int (mv_tI hG) rfl (by decide) (by decide) (by decide) ?_
  rw [← eh225, ← ea225]
  show mv_rq l G mX13_init (d + 1) 227 [some (.ref u0)] [.ref a225, .ref u0] h225 _
  obtain ⟨fs227, h227, f227, b227, l227, e227, hq⟩ := vpu_e hq
  refine q_putF (k := 45) (T := TX13) (C0 := RX13) (N := 88) (ci := 15) (ty := (.array .int)) tyX13 tyX13_ok nmX13 dX13_init_227 fl_RX13_91 rfl uin_RX13 (by decide) rfl rfl rfl rfl (by decide +kernel) rfl rfl b227 f227 l227 ?_
  rw [← e227]
  show mv_rq l G mX13_init (d + 1) 230 [some (.ref u0)] [] h227 _
  refine q_aload_n dX13_init_230 rfl ?_
  refine q_sipush (v := 170) dX13_init_231 (by decide) ?_
  obtain ⟨a234, h234, ea234, eh234, hq⟩ := vnw_e hq
  refine q_newa (t0 := 1) (N := 170) (a0 := (170, .inl (fun _ => 0))) dX13_init_234 rfl (fun _ z => nomatch z) arr_int (mv_tI hG) rfl (by decide) (by decide) (by decide) ?_
  rw [← eh234, ← ea234]
  show mv_rq l G mX13_init (d + 1) 236 [some (.ref u0)] [.ref a234, .ref u0] h234 _
  obtain ⟨fs236, h236, f236, b236, l236, e236, hq⟩ := vpu_e hq
  refine q_putF (k := 46) (T := TX13) (C0 := RX13) (N := 88) (ci := 15) (ty := (.array .int)) tyX13 tyX13_ok nmX13 dX13_init_236 fl_RX13_94 rfl uin_RX13 (by decide) rfl rfl rfl rfl (by decide +kernel) rfl rfl b236 f236 l236 ?_
  rw [← e236]
  show mv_rq l G mX13_init (d + 1) 239 [some (.ref u0)] [] h236 _
  refine q_aload_n dX13_init_239 rfl ?_
  refine q_sipush (v := 170) dX13_init_240 (by decide) ?_
  obtain ⟨a243, h243, ea243, eh243, hq⟩ := vnw_e hq
  refine q_newa (t0 := 1) (N := 170) (a0 := (170, .inl (fun _ => 0))) dX13_init_243 rfl (fun _ z => nomatch z) arr_int (mv_tI hG) rfl (by decide) (by decide) (by decide) ?_
  rw [← eh243, ← ea243]
  show mv_rq l G mX13_init (d + 1) 245 [some (.ref u0)] [.ref a243, .ref u0] h243 _
  obtain ⟨fs245, h245, f245, b245, l245, e245, hq⟩ := vpu_e hq
  refine q_putF (k := 47) (T := TX13) (C0 := RX13) (N := 88) (ci := 15) (ty := (.array .int)) tyX13 tyX13_ok nmX13 dX13_init_245 fl_RX13_97 rfl uin_RX13 (by decide) rfl rfl rfl rfl (by decide +kernel) rfl rfl b245 f245 l245 ?_
  rw [← e245]
  show mv_rq l G mX13_init (d + 1) 248 [some (.ref u0)] [] h245 _
  refine q_aload_n dX13_init_248 rfl ?_
  refine q_sipush (v := 170) dX13_init_249 (by decide) ?_
  obtain ⟨a252, h252, ea252, eh252, hq⟩ := vnw_e hq
  refine q_newa (t0 := 1) (N := 170) (a0 := (170, .inl (fun _ => 0))) dX13_init_252 rfl (fun _ z => nomatch z) arr_int (mv_tI hG) rfl (by decide) (by decide) (by decide) ?_
  rw [← eh252, ← ea252]
  show mv_rq l G mX13_init (d + 1) 254 [some (.ref u0)] [.ref a252, .ref u0] h252 _
  obtain ⟨fs254, h254, f254, b254, l254, e254, hq⟩ := vpu_e hq
  refine q_putF (k := 48) (T := TX13) (C0 := RX13) (N := 88) (ci := 15) (ty := (.array .int)) tyX13 tyX13_ok nmX13 dX13_init_254 fl_RX13_100 rfl uin_RX13 (by decide) rfl rfl rfl rfl (by decide +kernel) rfl rfl b254 f254 l254 ?_
  rw [← e254]
  show mv_rq l G mX13_init (d + 1) 257 [some (.ref u0)] [] h254 _
  refine q_aload_n dX13_init_257 rfl ?_
  refine q_bipush (v := 50) dX13_init_258 (by decide) ?_
  obtain ⟨a260, h260, ea260, eh260, hq⟩ := vnw_e hq
  refine q_newa (t0 := 1) (N := 50) (a0 := (50, .inl (fun _ => 0))) dX13_init_260 rfl (fun _ z => nomatch z) arr_int (mv_tI hG) rfl (by decide) (by decide) (by decide) ?_
  rw [← eh260, ← ea260]
  show mv_rq l G mX13_init (d + 1) 262 [some (.ref u0)] [.ref a260, .ref u0] h260 _
  obtain ⟨fs262, h262, f262, b262, l262, e262, hq⟩ := vpu_e hq
  refine q_putF (k := 49) (T := TX13) (C0 := RX13) (N := 88) (ci := 15) (ty := (.array .int)) tyX13 tyX13_ok nmX13 dX13_init_262 fl_RX13_103 rfl uin_RX13 (by decide) rfl rfl rfl rfl (by decide +kernel) rfl rfl b262 f262 l262 ?_
  rw [← e262]
  show mv_rq l G mX13_init (d + 1) 265 [some (.ref u0)] [] h262 _
  refine q_aload_n dX13_init_265 rfl ?_
  refine q_bipush (v := 50) dX13_init_266 (by decide) ?_
  obtain ⟨a268, h268, ea268, eh268, hq⟩ := vnw_e hq
  refine q_newa (t0 := 1) (N := 50) (a0 := (50, .inl (fun _ => 0))) dX13_init_268 rfl (fun _ z => nomatch z) arr_int (mv_tI hG) rfl (by decide) (by decide) (by decide) ?_
  rw [← eh268, ← ea268]
  show mv_rq l G mX13_init (d + 1) 270 [some (.ref u0)] [.ref a268, .ref u0] h268 _
  obtain ⟨fs270, h270, f270, b270, l270, e270, hq⟩ := vpu_e hq
  refine q_putF (k := 50) (T := TX13) (C0 := RX13) (N := 88) (ci := 15) (ty := (.array .int)) tyX13 tyX13_ok nmX13 dX13_init_270 fl_RX13_106 rfl uin_RX13 (by decide) rfl rfl rfl rfl (by decide +kernel) rfl rfl b270 f270 l270 ?_
  rw [← e270]
  show mv_rq l G mX13_init (d + 1) 273 [some (.ref u0)] [] h270 _
  refine q_aload_n dX13_init_273 rfl ?_
  refine q_sipush (v := 170) dX13_init_274 (by decide) ?_
  obtain ⟨a277, h277, ea277, eh277, hq⟩ := vnw_e hq
  refine q_newa (t0 := 1) (N := 170) (a0 := (170, .inl (fun _ => 0))) dX13_init_277 rfl (fun _ z => nomatch z) arr_int (mv_tI hG) rfl (by decide) (by decide) (by decide) ?_
  rw [← eh277, ← ea277]
  show mv_rq l G mX13_init (d + 1) 279 [some (.ref u0)] [.ref a277, .ref u0] h277 _
  obtain ⟨fs279, h279, f279, b279, l279, e279, hq⟩ := vpu_e hq
  refine q_putF (k := 51) (T := TX13) (C0 := RX13) (N := 88) (ci := 15) (ty := (.array .int)) tyX13 tyX13_ok nmX13 dX13_init_279 fl_RX13_109 rfl uin_RX13 (by decide) rfl rfl rfl rfl (by decide +kernel) rfl rfl b279 f279 l279 ?_
  rw [← e279]
  show mv_rq l G mX13_init (d + 1) 282 [some (.ref u0)] [] h279 _
  refine q_aload_n dX13_init_282 rfl ?_
  refine q_sipush (v := 170) dX13_init_283 (by decide) ?_
  obtain ⟨a286, h286, ea286, eh286, hq⟩ := vnw_e hq
  refine q_newa (t0 := 1) (N := 170) (a0 := (170, .inl (fun _ => 0))) dX13_init_286 rfl (fun _ z => nomatch z) arr_int (mv_tI hG) rfl (by decide) (by decide) (by decide) ?_
  rw [← eh286, ← ea286]
  show mv_rq l G mX13_init (d + 1) 288 [some (.ref u0)] [.ref a286, .ref u0] h286 _
  obtain ⟨fs288, h288, f288, b288, l288, e288, hq⟩ := vpu_e hq
  refine q_putF (k := 52) (T := TX13) (C0 := RX13) (N := 88) (ci := 15) (ty := (.array .int)) tyX13 tyX13_ok nmX13 dX13_init_288 fl_RX13_112 rfl uin_RX13 (by decide) rfl rfl rfl rfl (by decide +kernel) rfl rfl b288 f288 l288 ?_
  rw [← e288]
  show mv_rq l G mX13_init (d + 1) 291 [some (.ref u0)] [] h288 _
  refine q_aload_n dX13_init_291 rfl ?_
  refine q_sipush (v := 170) dX13_init_292 (by decide) ?_
  obtain ⟨a295, h295, ea295, eh295, hq⟩ := vnw_e hq
  refine q_newa (t0 := 1) (N := 170) (a0 := (170, .inl (fun _ => 0))) dX13_init_295 rfl (fun _ z => nomatch z) arr_int (mv_tI hG) rfl (by decide) (by decide) (by decide) ?_
  rw [← eh295, ← ea295]
  show mv_rq l G mX13_init (d + 1) 297 [some (.ref u0)] [.ref a295, .ref u0] h295 _
  obtain ⟨fs297, h297, f297, b297, l297, e297, hq⟩ := vpu_e hq
  refine q_putF (k := 53) (T := TX13) (C0 := RX13) (N := 88) (ci := 15) (ty := (.array .int)) tyX13 tyX13_ok nmX13 dX13_init_297 fl_RX13_115 rfl uin_RX13 (by decide) rfl rfl rfl rfl (by decide +kernel) rfl rfl b297 f297 l297 ?_
  rw [← e297]
  show mv_rq l G mX13_init (d + 1) 300 [some (.ref u0)] [] h297 _
  refine q_aload_n dX13_init_300 rfl ?_
  refine q_sipush (v := 170) dX13_init_301 (by decide) ?_
  obtain ⟨a304, h304, ea304, eh304, hq⟩ := vnw_e hq
  refine q_newa (t0 := 1) (N := 170) (a0 := (170, .inl (fun _ => 0))) dX13_init_304 rfl (fun _ z => nomatch z) arr_int (mv_tI hG) rfl (by decide) (by decide) (by decide) ?_
  rw [← eh304, ← ea304]
  show mv_rq l G mX13_init (d + 1) 306 [some (.ref u0)] [.ref a304, .ref u0] h304 _
  obtain ⟨fs306, h306, f306, b306, l306, e306, hq⟩ := vpu_e hq
  refine q_putF (k := 54) (T := TX13) (C0 := RX13) (N := 88) (ci := 15) (ty := (.array .int)) tyX13 tyX13_ok nmX13 dX13_init_306 fl_RX13_118 rfl uin_RX13 (by decide) rfl rfl rfl rfl (by decide +kernel) rfl rfl b306 f306 l306 ?_
  rw [← e306]
  show mv_rq l G mX13_init (d + 1) 309 [some (.ref u0)] [] h306 _
  refine q_aload_n dX13_init_309 rfl ?_
  refine q_sipush (v := 400) dX13_init_310 (by decide) ?_
  obtain ⟨a313, h313, ea313, eh313, hq⟩ := vnw_e hq
  refine q_newa (t0 := 1) (N := 400) (a0 := (400, .inl (fun _ => 0))) dX13_init_313 rfl (fun _ z => nomatch z) arr_int (mv_tI hG) rfl (by decide) (by decide) (by decide) ?_
  rw [← eh313, ← ea313]
  show mv_rq l G mX13_init (d + 1) 315 [some (.ref u0)] [.ref a313, .ref u0] h313 _
  obtain ⟨fs315, h315, f315, b315, l315, e315, hq⟩ := vpu_e hq
  refine q_putF (k := 56) (T := TX13) (C0 := RX13) (N := 88) (ci := 15) (ty := (.array .int)) tyX13 tyX13_ok nmX13 dX13_init_315 fl_RX13_121 rfl uin_RX13 (by decide) rfl rfl rfl rfl (by decide +kernel) rfl rfl b315 f315 l315 ?_
  rw [← e315]
  show mv_rq l G mX13_init (d + 1) 318 [some (.ref u0)] [] h315 _
  refine q_aload_n dX13_init_318 rfl ?_
  refine q_sipush (v := 400) dX13_init_319 (by decide) ?_
  obtain ⟨a322, h322, ea322, eh322, hq⟩ := vnw_e hq
  refine q_newa (t0 := 1) (N := 400) (a0 := (400, .inl (fun _ => 0))) dX13_init_322 rfl (fun _ z => nomatch z) arr_int (mv_tI hG) rfl (by decide) (by decide) (by decide) ?_
  rw [← eh322, ← ea322]
  show mv_rq l G mX13_init (d + 1) 324 [some (.ref u0)] [.ref a322, .ref u0] h322 _
  obtain ⟨fs324, h324, f324, b324, l324, e324, hq⟩ := vpu_e hq
  refine q_putF (k := 57) (T := TX13) (C0 := RX13) (N := 88) (ci := 15) (ty := (.array .int)) tyX13 tyX13_ok nmX13 dX13_init_324 fl_RX13_124 rfl uin_RX13 (by decide) rfl rfl rfl rfl (by decide +kernel) rfl rfl b324 f324 l324 ?_
  rw [← e324]
  show mv_rq l G mX13_init (d + 1) 327 [some (.ref u0)] [] h324 _
  refine q_aload_n dX13_init_327 rfl ?_
  refine q_sipush (v := 400) dX13_init_328 (by decide) ?_
  obtain ⟨a331, h331, ea331, eh331, hq⟩ := vnw_e hq
  refine q_newa (t0 := 1) (N := 400) (a0 := (400, .inl (fun _ => 0))) dX13_init_331 rfl (fun _ z => nomatch z) arr_int (mv_tI hG) rfl (by decide) (by decide) (by decide) ?_
  rw [← eh331, ← ea331]
  show mv_rq l G mX13_init (d + 1) 333 [some (.ref u0)] [.ref a331, .ref u0] h331 _
  obtain ⟨fs333, h333, f333, b333, l333, e333, hq⟩ := vpu_e hq
  refine q_putF (k := 58) (T := TX13) (C0 := RX13) (N := 88) (ci := 15) (ty := (.array .int)) tyX13 tyX13_ok nmX13 dX13_init_333 fl_RX13_127 rfl uin_RX13 (by decide) rfl rfl rfl rfl (by decide +kernel) rfl rfl b333 f333 l333 ?_
  rw [← e333]
  show mv_rq l G mX13_init (d + 1) 336 [some (.ref u0)] [] h333 _
  refine q_aload_n dX13_init_336 rfl ?_
  refine q_bipush (v := 8) dX13_init_337 (by decide) ?_
  obtain ⟨a339, h339, ea339, eh339, hq⟩ := vnw_e hq
  refine q_newa (t0 := 1) (N := 8) (a0 := (8, .inl (fun _ => 0))) dX13_init_339 rfl (fun _ z => nomatch z) arr_int (mv_tI hG) rfl (by decide) (by decide) (by decide) ?_
  rw [← eh339, ← ea339]
  show mv_rq l G mX13_init (d + 1) 341 [some (.ref u0)] [.ref a339, .ref u0] h339 _
  obtain ⟨fs341, h341, f341, b341, l341, e341, hq⟩ := vpu_e hq
  refine q_putF (k := 62) (T := TX13) (C0 := RX13) (N := 88) (ci := 15) (ty := (.array .int)) tyX13 tyX13_ok nmX13 dX13_init_341 fl_RX13_130 rfl uin_RX13 (by decide) rfl rfl rfl rfl (by decide +kernel) rfl rfl b341 f341 l341 ?_
  rw [← e341]
  show mv_rq l G mX13_init (d + 1) 344 [some (.ref u0)] [] h341 _
  refine q_aload_n dX13_init_344 rfl ?_
  refine q_bipush (v := 8) dX13_init_345 (by decide) ?_
  obtain ⟨a347, h347, ea347, eh347, hq⟩ := vnw_e hq
  refine q_newa (t0 := 1) (N := 8) (a0 := (8, .inl (fun _ => 0))) dX13_init_347 rfl (fun _ z => nomatch z) arr_int (mv_tI hG) rfl (by decide) (by decide) (by decide) ?_
  rw [← eh347, ← ea347]
  show mv_rq l G mX13_init (d + 1) 349 [some (.ref u0)] [.ref a347, .ref u0] h347 _
  obtain ⟨fs349, h349, f349, b349, l349, e349, hq⟩ := vpu_e hq
  refine q_putF (k := 63) (T := TX13) (C0 := RX13) (N := 88) (ci := 15) (ty := (.array .int)) tyX13 tyX13_ok nmX13 dX13_init_349 fl_RX13_133 rfl uin_RX13 (by decide) rfl rfl rfl rfl (by decide +kernel) rfl rfl b349 f349 l349 ?_
  rw [← e349]
  show mv_rq l G mX13_init (d + 1) 352 [some (.ref u0)] [] h349 _
  refine q_aload_n dX13_init_352 rfl ?_
  refine q_bipush (v := 8) dX13_init_353 (by decide) ?_
  obtain ⟨a355, h355, ea355, eh355, hq⟩ := vnw_e hq
  refine q_newa (t0 := 1) (N := 8) (a0 := (8, .inl (fun _ => 0))) dX13_init_355 rfl (fun _ z => nomatch z) arr_int (mv_tI hG) rfl (by decide) (by decide) (by decide) ?_
  rw [← eh355, ← ea355]
  show mv_rq l G mX13_init (d + 1) 357 [some (.ref u0)] [.ref a355, .ref u0] h355 _
  obtain ⟨fs357, h357, f357, b357, l357, e357, hq⟩ := vpu_e hq
  refine q_putF (k := 64) (T := TX13) (C0 := RX13) (N := 88) (ci := 15) (ty := (.array .int)) tyX13 tyX13_ok nmX13 dX13_init_357 fl_RX13_136 rfl uin_RX13 (by decide) rfl rfl rfl rfl (by decide +kernel) rfl rfl b357 f357 l357 ?_
  rw [← e357]
  show mv_rq l G mX13_init (d + 1) 360 [some (.ref u0)] [] h357 _
  refine q_aload_n dX13_init_360 rfl ?_
  refine q_bipush (v := 8) dX13_init_361 (by decide) ?_
  obtain ⟨a363, h363, ea363, eh363, hq⟩ := vnw_e hq
  refine q_newa (t0 := 1) (N := 8) (a0 := (8, .inl (fun _ => 0))) dX13_init_363 rfl (fun _ z => nomatch z) arr_int (mv_tI hG) rfl (by decide) (by decide) (by decide) ?_
  rw [← eh363, ← ea363]
  show mv_rq l G mX13_init (d + 1) 365 [some (.ref u0)] [.ref a363, .ref u0] h363 _
  obtain ⟨fs365, h365, f365, b365, l365, e365, hq⟩ := vpu_e hq
  refine q_putF (k := 65) (T := TX13) (C0 := RX13) (N := 88) (ci := 15) (ty := (.array .int)) tyX13 tyX13_ok nmX13 dX13_init_365 fl_RX13_139 rfl uin_RX13 (by decide) rfl rfl rfl rfl (by decide +kernel) rfl rfl b365 f365 l365 ?_
  rw [← e365]
  show mv_rq l G mX13_init (d + 1) 368 [some (.ref u0)] [] h365 _
  refine q_aload_n dX13_init_368 rfl ?_
  refine q_bipush (v := 8) dX13_init_369 (by decide) ?_
  obtain ⟨a371, h371, ea371, eh371, hq⟩ := vnw_e hq
  refine q_newa (t0 := 1) (N := 8) (a0 := (8, .inl (fun _ => 0))) dX13_init_371 rfl (fun _ z => nomatch z) arr_int (mv_tI hG) rfl (by decide) (by decide) (by decide) ?_
  rw [← eh371, ← ea371]
  show mv_rq l G mX13_init (d + 1) 373 [some (.ref u0)] [.ref a371, .ref u0] h371 _
  obtain ⟨fs373, h373, f373, b373, l373, e373, hq⟩ := vpu_e hq
  refine q_putF (k := 66) (T := TX13) (C0 := RX13) (N := 88) (ci := 15) (ty := (.array .int)) tyX13 tyX13_ok nmX13 dX13_init_373 fl_RX13_142 rfl uin_RX13 (by decide) rfl rfl rfl rfl (by decide +kernel) rfl rfl b373 f373 l373 ?_
  rw [← e373]
  show mv_rq l G mX13_init (d + 1) 376 [some (.ref u0)] [] h373 _
  refine q_aload_n dX13_init_376 rfl ?_
  refine q_bipush (v := 8) dX13_init_377 (by decide) ?_
  obtain ⟨a379, h379, ea379, eh379, hq⟩ := vnw_e hq
  refine q_newa (t0 := 1) (N := 8) (a0 := (8, .inl (fun _ => 0))) dX13_init_379 rfl (fun _ z => nomatch z) arr_int (mv_tI hG) rfl (by decide) (by decide) (by decide) ?_
  rw [← eh379, ← ea379]
  show mv_rq l G mX13_init (d + 1) 381 [some (.ref u0)] [.ref a379, .ref u0] h379 _
  obtain ⟨fs381, h381, f381, b381, l381, e381, hq⟩ := vpu_e hq
  refine q_putF (k := 67) (T := TX13) (C0 := RX13) (N := 88) (ci := 15) (ty := (.array .int)) tyX13 tyX13_ok nmX13 dX13_init_381 fl_RX13_145 rfl uin_RX13 (by decide) rfl rfl rfl rfl (by decide +kernel) rfl rfl b381 f381 l381 ?_
  rw [← e381]
  show mv_rq l G mX13_init (d + 1) 384 [some (.ref u0)] [] h381 _
  refine q_aload_n dX13_init_384 rfl ?_
  refine q_bipush (v := 8) dX13_init_385 (by decide) ?_
  obtain ⟨a387, h387, ea387, eh387, hq⟩ := vnw_e hq
  refine q_newa (t0 := 1) (N := 8) (a0 := (8, .inl (fun _ => 0))) dX13_init_387 rfl (fun _ z => nomatch z) arr_int (mv_tI hG) rfl (by decide) (by decide) (by decide) ?_
  rw [← eh387, ← ea387]
  show mv_rq l G mX13_init (d + 1) 389 [some (.ref u0)] [.ref a387, .ref u0] h387 _
  obtain ⟨fs389, h389, f389, b389, l389, e389, hq⟩ := vpu_e hq
  refine q_putF (k := 68) (T := TX13) (C0 := RX13) (N := 88) (ci := 15) (ty := (.array .int)) tyX13 tyX13_ok nmX13 dX13_init_389 fl_RX13_148 rfl uin_RX13 (by decide) rfl rfl rfl rfl (by decide +kernel) rfl rfl b389 f389 l389 ?_
  rw [← e389]
  show mv_rq l G mX13_init (d + 1) 392 [some (.ref u0)] [] h389 _
  refine q_aload_n dX13_init_392 rfl ?_
  refine q_bipush (v := 8) dX13_init_393 (by decide) ?_
  obtain ⟨a395, h395, ea395, eh395, hq⟩ := vnw_e hq
  refine q_newa (t0 := 1) (N := 8) (a0 := (8, .inl (fun _ => 0))) dX13_init_395 rfl (fun _ z => nomatch z) arr_int (mv_tI hG) rfl (by decide) (by decide) (by decide) ?_
  rw [← eh395, ← ea395]
  show mv_rq l G mX13_init (d + 1) 397 [some (.ref u0)] [.ref a395, .ref u0] h395 _
  obtain ⟨fs397, h397, f397, b397, l397, e397, hq⟩ := vpu_e hq
  refine q_putF (k := 69) (T := TX13) (C0 := RX13) (N := 88) (ci := 15) (ty := (.array .int)) tyX13 tyX13_ok nmX13 dX13_init_397 fl_RX13_151 rfl uin_RX13 (by decide) rfl rfl rfl rfl (by decide +kernel) rfl rfl b397 f397 l397 ?_
  rw [← e397]
  show mv_rq l G mX13_init (d + 1) 400 [some (.ref u0)] [] h397 _
  refine q_aload_n dX13_init_400 rfl ?_
  refine q_bipush (v := 8) dX13_init_401 (by decide) ?_
  obtain ⟨a403, h403, ea403, eh403, hq⟩ := vnw_e hq
  refine q_newa (t0 := 1) (N := 8) (a0 := (8, .inl (fun _ => 0))) dX13_init_403 rfl (fun _ z => nomatch z) arr_int (mv_tI hG) rfl (by decide) (by decide) (by decide) ?_
  rw [← eh403, ← ea403]
  show mv_rq l G mX13_init (d + 1) 405 [some (.ref u0)] [.ref a403, .ref u0] h403 _
  obtain ⟨fs405, h405, f405, b405, l405, e405, hq⟩ := vpu_e hq
  refine q_putF (k := 70) (T := TX13) (C0 := RX13) (N := 88) (ci := 15) (ty := (.array .int)) tyX13 tyX13_ok nmX13 dX13_init_405 fl_RX13_154 rfl uin_RX13 (by decide) rfl rfl rfl rfl (by decide +kernel) rfl rfl b405 f405 l405 ?_
  rw [← e405]
  show mv_rq l G mX13_init (d + 1) 408 [some (.ref u0)] [] h405 _
  refine q_aload_n dX13_init_408 rfl ?_
  refine q_bipush (v := 8) dX13_init_409 (by decide) ?_
  obtain ⟨a411, h411, ea411, eh411, hq⟩ := vnw_e hq
  refine q_newa (t0 := 1) (N := 8) (a0 := (8, .inl (fun _ => 0))) dX13_init_411 rfl (fun _ z => nomatch z) arr_int (mv_tI hG) rfl (by decide) (by decide) (by decide) ?_
  rw [← eh411, ← ea411]
  show mv_rq l G mX13_init (d + 1) 413 [some (.ref u0)] [.ref a411, .ref u0] h411 _
  obtain ⟨fs413, h413, f413, b413, l413, e413, hq⟩ := vpu_e hq
  refine q_putF (k := 71) (T := TX13) (C0 := RX13) (N := 88) (ci := 15) (ty := (.array .int)) tyX13 tyX13_ok nmX13 dX13_init_413 fl_RX13_157 rfl uin_RX13 (by decide) rfl rfl rfl rfl (by decide +kernel) rfl rfl b413 f413 l413 ?_
  rw [← e413]
  show mv_rq l G mX13_init (d + 1) 416 [some (.ref u0)] [] h413 _
  refine q_aload_n dX13_init_416 rfl ?_
  refine q_bipush (v := 8) dX13_init_417 (by decide) ?_
  obtain ⟨a419, h419, ea419, eh419, hq⟩ := vnw_e hq
  refine q_newa (t0 := 1) (N := 8) (a0 := (8, .inl (fun _ => 0))) dX13_init_419 rfl (fun _ z => nomatch z) arr_int (mv_tI hG) rfl (by decide) (by decide) (by decide) ?_
  rw [← eh419, ← ea419]
  show mv_rq l G mX13_init (d + 1) 421 [some (.ref u0)] [.ref a419, .ref u0] h419 _
  obtain ⟨fs421, h421, f421, b421, l421, e421, hq⟩ := vpu_e hq
  refine q_putF (k := 72) (T := TX13) (C0 := RX13) (N := 88) (ci := 15) (ty := (.array .int)) tyX13 tyX13_ok nmX13 dX13_init_421 fl_RX13_160 rfl uin_RX13 (by decide) rfl rfl rfl rfl (by decide +kernel) rfl rfl b421 f421 l421 ?_
  rw [← e421]
  show mv_rq l G mX13_init (d + 1) 424 [some (.ref u0)] [] h421 _
  refine q_aload_n dX13_init_424 rfl ?_
  refine q_bipush (v := 8) dX13_init_425 (by decide) ?_
  obtain ⟨a427, h427, ea427, eh427, hq⟩ := vnw_e hq
  refine q_newa (t0 := 1) (N := 8) (a0 := (8, .inl (fun _ => 0))) dX13_init_427 rfl (fun _ z => nomatch z) arr_int (mv_tI hG) rfl (by decide) (by decide) (by decide) ?_
  rw [← eh427, ← ea427]
  show mv_rq l G mX13_init (d + 1) 429 [some (.ref u0)] [.ref a427, .ref u0] h427 _
  obtain ⟨fs429, h429, f429, b429, l429, e429, hq⟩ := vpu_e hq
  refine q_putF (k := 73) (T := TX13) (C0 := RX13) (N := 88) (ci := 15) (ty := (.array .int)) tyX13 tyX13_ok nmX13 dX13_init_429 fl_RX13_163 rfl uin_RX13 (by decide) rfl rfl rfl rfl (by decide +kernel) rfl rfl b429 f429 l429 ?_
  rw [← e429]
  show mv_rq l G mX13_init (d + 1) 432 [some (.ref u0)] [] h429 _
  refine q_aload_n dX13_init_432 rfl ?_
  refine q_sipush (v := 2400) dX13_init_433 (by decide) ?_
  obtain ⟨a436, h436, ea436, eh436, hq⟩ := vnw_e hq
  refine q_newa (t0 := 1) (N := 2400) (a0 := (2400, .inl (fun _ => 0))) dX13_init_436 rfl (fun _ z => nomatch z) arr_int (mv_tI hG) rfl (by decide) (by decide) (by decide) ?_
  rw [← eh436, ← ea436]
  show mv_rq l G mX13_init (d + 1) 438 [some (.ref u0)] [.ref a436, .ref u0] h436 _
  obtain ⟨fs438, h438, f438, b438, l438, e438, hq⟩ := vpu_e hq
  refine q_putF (k := 74) (T := TX13) (C0 := RX13) (N := 88) (ci := 15) (ty := (.array .int)) tyX13 tyX13_ok nmX13 dX13_init_438 fl_RX13_166 rfl uin_RX13 (by decide) rfl rfl rfl rfl (by decide +kernel) rfl rfl b438 f438 l438 ?_
  rw [← e438]
  show mv_rq l G mX13_init (d + 1) 441 [some (.ref u0)] [] h438 _
  refine q_aload_n dX13_init_441 rfl ?_
  refine q_sipush (v := 2400) dX13_init_442 (by decide) ?_
  obtain ⟨a445, h445, ea445, eh445, hq⟩ := vnw_e hq
  refine q_newa (t0 := 1) (N := 2400) (a0 := (2400, .inl (fun _ => 0))) dX13_init_445 rfl (fun _ z => nomatch z) arr_int (mv_tI hG) rfl (by decide) (by decide) (by decide) ?_
  rw [← eh445, ← ea445]
  show mv_rq l G mX13_init (d + 1) 447 [some (.ref u0)] [.ref a445, .ref u0] h445 _
  obtain ⟨fs447, h447, f447, b447, l447, e447, hq⟩ := vpu_e hq
  refine q_putF (k := 75) (T := TX13) (C0 := RX13) (N := 88) (ci := 15) (ty := (.array .int)) tyX13 tyX13_ok nmX13 dX13_init_447 fl_RX13_169 rfl uin_RX13 (by decide) rfl rfl rfl rfl (by decide +kernel) rfl rfl b447 f447 l447 ?_
  rw [← e447]
  show mv_rq l G mX13_init (d + 1) 450 [some (.ref u0)] [] h447 _
  refine q_aload_n dX13_init_450 rfl ?_
  refine q_bipush (v := 100) dX13_init_451 (by decide) ?_
  obtain ⟨a453, h453, ea453, eh453, hq⟩ := vnw_e hq
  refine q_newa (t0 := 1) (N := 100) (a0 := (100, .inl (fun _ => 0))) dX13_init_453 rfl (fun _ z => nomatch z) arr_int (mv_tI hG) rfl (by decide) (by decide) (by decide) ?_
  rw [← eh453, ← ea453]
  show mv_rq l G mX13_init (d + 1) 455 [some (.ref u0)] [.ref a453, .ref u0] h453 _
  obtain ⟨fs455, h455, f455, b455, l455, e455, hq⟩ := vpu_e hq
  refine q_putF (k := 77) (T := TX13) (C0 := RX13) (N := 88) (ci := 15) (ty := (.array .int)) tyX13 tyX13_ok nmX13 dX13_init_455 fl_RX13_172 rfl uin_RX13 (by decide) rfl rfl rfl rfl (by decide +kernel) rfl rfl b455 f455 l455 ?_
  rw [← e455]
  show mv_rq l G mX13_init (d + 1) 458 [some (.ref u0)] [] h455 _
  refine q_aload_n dX13_init_458 rfl ?_
  refine q_bipush (v := 100) dX13_init_459 (by decide) ?_
  obtain ⟨a461, h461, ea461, eh461, hq⟩ := vnw_e hq
  refine q_newa (t0 := 1) (N := 100) (a0 := (100, .inl (fun _ => 0))) dX13_init_461 rfl (fun _ z => nomatch z) arr_int (mv_tI hG) rfl (by decide) (by decide) (by decide) ?_
  rw [← eh461, ← ea461]
  show mv_rq l G mX13_init (d + 1) 463 [some (.ref u0)] [.ref a461, .ref u0] h461 _
  obtain ⟨fs463, h463, f463, b463, l463, e463, hq⟩ := vpu_e hq
  refine q_putF (k := 78) (T := TX13) (C0 := RX13) (N := 88) (ci := 15) (ty := (.array .int)) tyX13 tyX13_ok nmX13 dX13_init_463 fl_RX13_175 rfl uin_RX13 (by decide) rfl rfl rfl rfl (by decide +kernel) rfl rfl b463 f463 l463 ?_
  rw [← e463]
  show mv_rq l G mX13_init (d + 1) 466 [some (.ref u0)] [] h463 _
  refine q_aload_n dX13_init_466 rfl ?_
  refine q_bipush (v := 100) dX13_init_467 (by decide) ?_
  obtain ⟨a469, h469, ea469, eh469, hq⟩ := vnw_e hq
  refine q_newa (t0 := 1) (N := 100) (a0 := (100, .inl (fun _ => 0))) dX13_init_469 rfl (fun _ z => nomatch z) arr_int (mv_tI hG) rfl (by decide) (by decide) (by decide) ?_
  rw [← eh469, ← ea469]
  show mv_rq l G mX13_init (d + 1) 471 [some (.ref u0)] [.ref a469, .ref u0] h469 _
  obtain ⟨fs471, h471, f471, b471, l471, e471, hq⟩ := vpu_e hq
  refine q_putF (k := 79) (T := TX13) (C0 := RX13) (N := 88) (ci := 15) (ty := (.array .int)) tyX13 tyX13_ok nmX13 dX13_init_471 fl_RX13_178 rfl uin_RX13 (by decide) rfl rfl rfl rfl (by decide +kernel) rfl rfl b471 f471 l471 ?_
  rw [← e471]
  show mv_rq l G mX13_init (d + 1) 474 [some (.ref u0)] [] h471 _
  refine q_aload_n dX13_init_474 rfl ?_
  refine q_sipush (v := 200) dX13_init_475 (by decide) ?_
  obtain ⟨a478, h478, ea478, eh478, hq⟩ := vnw_e hq
  refine q_newa (t0 := 1) (N := 200) (a0 := (200, .inl (fun _ => 0))) dX13_init_478 rfl (fun _ z => nomatch z) arr_int (mv_tI hG) rfl (by decide) (by decide) (by decide) ?_
  rw [← eh478, ← ea478]
  show mv_rq l G mX13_init (d + 1) 480 [some (.ref u0)] [.ref a478, .ref u0] h478 _
  obtain ⟨fs480, h480, f480, b480, l480, e480, hq⟩ := vpu_e hq
  refine q_putF (k := 80) (T := TX13) (C0 := RX13) (N := 88) (ci := 15) (ty := (.array .int)) tyX13 tyX13_ok nmX13 dX13_init_480 fl_RX13_181 rfl uin_RX13 (by decide) rfl rfl rfl rfl (by decide +kernel) rfl rfl b480 f480 l480 ?_
  rw [← e480]
  show mv_rq l G mX13_init (d + 1) 483 [some (.ref u0)] [] h480 _
  refine q_aload_n dX13_init_483 rfl ?_
  refine q_sipush (v := 200) dX13_init_484 (by decide) ?_
  obtain ⟨a487, h487, ea487, eh487, hq⟩ := vnw_e hq
  refine q_newa (t0 := 1) (N := 200) (a0 := (200, .inl (fun _ => 0))) dX13_init_487 rfl (fun _ z => nomatch z) arr_int (mv_tI hG) rfl (by decide) (by decide) (by decide) ?_
  rw [← eh487, ← ea487]
  show mv_rq l G mX13_init (d + 1) 489 [some (.ref u0)] [.ref a487, .ref u0] h487 _
  obtain ⟨fs489, h489, f489, b489, l489, e489, hq⟩ := vpu_e hq
  refine q_putF (k := 81) (T := TX13) (C0 := RX13) (N := 88) (ci := 15) (ty := (.array .int)) tyX13 tyX13_ok nmX13 dX13_init_489 fl_RX13_184 rfl uin_RX13 (by decide) rfl rfl rfl rfl (by decide +kernel) rfl rfl b489 f489 l489 ?_
  rw [← e489]
  show mv_rq l G mX13_init (d + 1) 492 [some (.ref u0)] [] h489 _
  refine q_aload_n dX13_init_492 rfl ?_
  refine q_sipush (v := 300) dX13_init_493 (by decide) ?_
  obtain ⟨a496, h496, ea496, eh496, hq⟩ := vnw_e hq
  refine q_newa (t0 := 1) (N := 300) (a0 := (300, .inl (fun _ => 0))) dX13_init_496 rfl (fun _ z => nomatch z) arr_int (mv_tI hG) rfl (by decide) (by decide) (by decide) ?_
  rw [← eh496, ← ea496]
  show mv_rq l G mX13_init (d + 1) 498 [some (.ref u0)] [.ref a496, .ref u0] h496 _
  obtain ⟨fs498, h498, f498, b498, l498, e498, hq⟩ := vpu_e hq
  refine q_putF (k := 83) (T := TX13) (C0 := RX13) (N := 88) (ci := 15) (ty := (.array .int)) tyX13 tyX13_ok nmX13 dX13_init_498 fl_RX13_187 rfl uin_RX13 (by decide) rfl rfl rfl rfl (by decide +kernel) rfl rfl b498 f498 l498 ?_
  rw [← e498]
  show mv_rq l G mX13_init (d + 1) 501 [some (.ref u0)] [] h498 _
  refine q_aload_n dX13_init_501 rfl ?_
  refine q_sipush (v := 400) dX13_init_502 (by decide) ?_
  obtain ⟨a505, h505, ea505, eh505, hq⟩ := vnw_e hq
  refine q_newa (t0 := 0) (N := 400) (a0 := (400, .inl (fun _ => 0))) dX13_init_505 rfl (fun _ z => nomatch z) arr_byte (mv_tB hG) rfl (by decide) (by decide) (by decide) ?_
  rw [← eh505, ← ea505]
  show mv_rq l G mX13_init (d + 1) 507 [some (.ref u0)] [.ref a505, .ref u0] h505 _
  obtain ⟨fs507, h507, f507, b507, l507, e507, hq⟩ := vpu_e hq
  refine q_putF (k := 85) (T := TX13) (C0 := RX13) (N := 88) (ci := 15) (ty := (.array .byte)) tyX13 tyX13_ok nmX13 dX13_init_507 fl_RX13_190 rfl uin_RX13 (by decide) rfl rfl rfl rfl (by decide +kernel) rfl rfl b507 f507 l507 ?_
  rw [← e507]
  show mv_rq l G mX13_init (d + 1) 510 [some (.ref u0)] [] h507 _
  exact q_vret dX13_init_510 rfl hq
