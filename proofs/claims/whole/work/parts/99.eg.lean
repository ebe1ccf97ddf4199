theorem dL_document_0 : decode cL_document 0 = .ok (.aload_n 1, 1) := by decide +kernel
theorem dL_document_1 : decode cL_document 1 = .ok (.iconst 0, 1) := by decide +kernel
theorem dL_document_2 : decode cL_document 2 = .ok (.aload_n 0, 1) := by decide +kernel
theorem dL_document_3 : decode cL_document 3 = .ok (.invokevirtual 7, 3) := by decide +kernel
theorem dL_document_6 : decode cL_document 6 = .ok (.i2l, 1) := by decide +kernel
theorem dL_document_7 : decode cL_document 7 = .ok (.lastore, 1) := by decide +kernel
theorem dL_document_8 : decode cL_document 8 = .ok (.goto 6, 3) := by decide +kernel
theorem dL_document_11 : decode cL_document 11 = .ok (.astore_n 2, 1) := by decide +kernel
theorem dL_document_12 : decode cL_document 12 = .ok (.iconst 1, 1) := by decide +kernel
theorem dL_document_13 : decode cL_document 13 = .ok (.ireturn, 1) := by decide +kernel
theorem dL_document_14 : decode cL_document 14 = .ok (.iconst 0, 1) := by decide +kernel
theorem dL_document_15 : decode cL_document 15 = .ok (.ireturn, 1) := by decide +kernel
theorem dL_query_0 : decode cL_query 0 = .ok (.aload_n 1, 1) := by decide +kernel
theorem dL_query_1 : decode cL_query 1 = .ok (.iconst 0, 1) := by decide +kernel
theorem dL_query_2 : decode cL_query 2 = .ok (.aload_n 0, 1) := by decide +kernel
theorem dL_query_3 : decode cL_query 3 = .ok (.invokevirtual 15, 3) := by decide +kernel
theorem dL_query_6 : decode cL_query 6 = .ok (.i2l, 1) := by decide +kernel
theorem dL_query_7 : decode cL_query 7 = .ok (.lastore, 1) := by decide +kernel
theorem dL_query_8 : decode cL_query 8 = .ok (.goto 6, 3) := by decide +kernel
theorem dL_query_11 : decode cL_query 11 = .ok (.astore_n 2, 1) := by decide +kernel
theorem dL_query_12 : decode cL_query 12 = .ok (.iconst 1, 1) := by decide +kernel
theorem dL_query_13 : decode cL_query 13 = .ok (.ireturn, 1) := by decide +kernel
theorem dL_query_14 : decode cL_query 14 = .ok (.iconst 0, 1) := by decide +kernel
theorem dL_query_15 : decode cL_query 15 = .ok (.ireturn, 1) := by decide +kernel
theorem dL_find_0 : decode cL_find 0 = .ok (.aload_n 1, 1) := by decide +kernel
theorem dL_find_1 : decode cL_find 1 = .ok (.iconst 0, 1) := by decide +kernel
theorem dL_find_2 : decode cL_find 2 = .ok (.aload_n 0, 1) := by decide +kernel
theorem dL_find_3 : decode cL_find 3 = .ok (.invokevirtual 18, 3) := by decide +kernel
theorem dL_find_6 : decode cL_find 6 = .ok (.i2l, 1) := by decide +kernel
theorem dL_find_7 : decode cL_find 7 = .ok (.lastore, 1) := by decide +kernel
theorem dL_find_8 : decode cL_find 8 = .ok (.goto 9, 3) := by decide +kernel
theorem dL_find_11 : decode cL_find 11 = .ok (.astore_n 2, 1) := by decide +kernel
theorem dL_find_12 : decode cL_find 12 = .ok (.iconst 1, 1) := by decide +kernel
theorem dL_find_13 : decode cL_find 13 = .ok (.ireturn, 1) := by decide +kernel
theorem dL_find_14 : decode cL_find 14 = .ok (.astore_n 2, 1) := by decide +kernel
theorem dL_find_15 : decode cL_find 15 = .ok (.iconst 2, 1) := by decide +kernel
theorem dL_find_16 : decode cL_find 16 = .ok (.ireturn, 1) := by decide +kernel
theorem dL_find_17 : decode cL_find 17 = .ok (.iconst 0, 1) := by decide +kernel
theorem dL_find_18 : decode cL_find 18 = .ok (.ireturn, 1) := by decide +kernel
theorem dL_law_0 : decode cL_law 0 = .ok (.new 8, 3) := by decide +kernel
theorem dL_law_3 : decode cL_law 3 = .ok (.dup, 1) := by decide +kernel
theorem dL_law_4 : decode cL_law 4 = .ok (.invokespecial 25, 3) := by decide +kernel
theorem dL_law_7 : decode cL_law 7 = .ok (.astore_n 1, 1) := by decide +kernel
theorem dL_law_8 : decode cL_law 8 = .ok (.new 26, 3) := by decide +kernel
theorem dL_law_11 : decode cL_law 11 = .ok (.dup, 1) := by decide +kernel
theorem dL_law_12 : decode cL_law 12 = .ok (.invokespecial 28, 3) := by decide +kernel
theorem dL_law_15 : decode cL_law 15 = .ok (.astore_n 2, 1) := by decide +kernel
theorem dL_law_16 : decode cL_law 16 = .ok (.iconst 1, 1) := by decide +kernel
theorem dL_law_17 : decode cL_law 17 = .ok (.newarray .long, 2) := by decide +kernel
theorem dL_law_19 : decode cL_law 19 = .ok (.astore_n 3, 1) := by decide +kernel
theorem dL_law_20 : decode cL_law 20 = .ok (.iconst 0, 1) := by decide +kernel
theorem dL_law_21 : decode cL_law 21 = .ok (.istore 4, 2) := by decide +kernel
theorem dL_law_23 : decode cL_law 23 = .ok (.iload 4, 2) := by decide +kernel
theorem dL_law_25 : decode cL_law 25 = .ok (.aload_n 0, 1) := by decide +kernel
theorem dL_law_26 : decode cL_law 26 = .ok (.arraylength, 1) := by decide +kernel
theorem dL_law_27 : decode cL_law 27 = .ok (.iconst 3, 1) := by decide +kernel
theorem dL_law_28 : decode cL_law 28 = .ok (.isub, 1) := by decide +kernel
theorem dL_law_29 : decode cL_law 29 = .ok (.if_icmp .gt 460, 3) := by decide +kernel
theorem dL_law_32 : decode cL_law 32 = .ok (.aload_n 0, 1) := by decide +kernel
theorem dL_law_33 : decode cL_law 33 = .ok (.iload 4, 2) := by decide +kernel
theorem dL_law_35 : decode cL_law 35 = .ok (.iaload, 1) := by decide +kernel
theorem dL_law_36 : decode cL_law 36 = .ok (.bipush 15, 2) := by decide +kernel
theorem dL_law_38 : decode cL_law 38 = .ok (.iand, 1) := by decide +kernel
theorem dL_law_39 : decode cL_law 39 = .ok (.tableswitch 444 0 11 #[61, 88, 132, 176, 189, 233, 258, 283, 308, 345, 370, 407], 61) := by decide +kernel
theorem dL_law_100 : decode cL_law 100 = .ok (.aload_n 1, 1) := by decide +kernel
theorem dL_law_101 : decode cL_law 101 = .ok (.aload_n 0, 1) := by decide +kernel
theorem dL_law_102 : decode cL_law 102 = .ok (.iload 4, 2) := by decide +kernel
theorem dL_law_104 : decode cL_law 104 = .ok (.iconst 1, 1) := by decide +kernel
theorem dL_law_105 : decode cL_law 105 = .ok (.iadd, 1) := by decide +kernel
theorem dL_law_106 : decode cL_law 106 = .ok (.iaload, 1) := by decide +kernel
theorem dL_law_107 : decode cL_law 107 = .ok (.i2c, 1) := by decide +kernel
theorem dL_law_108 : decode cL_law 108 = .ok (.invokevirtual 29, 3) := by decide +kernel
theorem dL_law_111 : decode cL_law 111 = .ok (.aload_n 2, 1) := by decide +kernel
theorem dL_law_112 : decode cL_law 112 = .ok (.aload_n 0, 1) := by decide +kernel
theorem dL_law_113 : decode cL_law 113 = .ok (.iload 4, 2) := by decide +kernel
theorem dL_law_115 : decode cL_law 115 = .ok (.iconst 1, 1) := by decide +kernel
theorem dL_law_116 : decode cL_law 116 = .ok (.iadd, 1) := by decide +kernel
theorem dL_law_117 : decode cL_law 117 = .ok (.iaload, 1) := by decide +kernel
theorem dL_law_118 : decode cL_law 118 = .ok (.i2c, 1) := by decide +kernel
theorem dL_law_119 : decode cL_law 119 = .ok (.invokevirtual 33, 3) := by decide +kernel
theorem dL_law_122 : decode cL_law 122 = .ok (.if_icmp .eq 361, 3) := by decide +kernel
theorem dL_law_125 : decode cL_law 125 = .ok (.iconst 0, 1) := by decide +kernel
theorem dL_law_126 : decode cL_law 126 = .ok (.ireturn, 1) := by decide +kernel
theorem dL_law_127 : decode cL_law 127 = .ok (.aload_n 1, 1) := by decide +kernel
theorem dL_law_128 : decode cL_law 128 = .ok (.aload_n 3, 1) := by decide +kernel
theorem dL_law_129 : decode cL_law 129 = .ok (.invokestatic 34, 3) := by decide +kernel
theorem dL_law_132 : decode cL_law 132 = .ok (.istore 5, 2) := by decide +kernel
theorem dL_law_134 : decode cL_law 134 = .ok (.aload_n 2, 1) := by decide +kernel
theorem dL_law_135 : decode cL_law 135 = .ok (.invokevirtual 39, 3) := by decide +kernel
theorem dL_law_138 : decode cL_law 138 = .ok (.istore 6, 2) := by decide +kernel
theorem dL_law_140 : decode cL_law 140 = .ok (.aload_n 2, 1) := by decide +kernel
theorem dL_law_141 : decode cL_law 141 = .ok (.invokevirtual 40, 3) := by decide +kernel
theorem dL_law_144 : decode cL_law 144 = .ok (.iload 5, 2) := by decide +kernel
theorem dL_law_146 : decode cL_law 146 = .ok (.if_icmp .eq 5, 3) := by decide +kernel
theorem dL_law_149 : decode cL_law 149 = .ok (.iconst 0, 1) := by decide +kernel
theorem dL_law_150 : decode cL_law 150 = .ok (.ireturn, 1) := by decide +kernel
theorem dL_law_151 : decode cL_law 151 = .ok (.iload 5, 2) := by decide +kernel
theorem dL_law_153 : decode cL_law 153 = .ok (.ifCond .ne 15, 3) := by decide +kernel
theorem dL_law_156 : decode cL_law 156 = .ok (.aload_n 3, 1) := by decide +kernel
theorem dL_law_157 : decode cL_law 157 = .ok (.iconst 0, 1) := by decide +kernel
theorem dL_law_158 : decode cL_law 158 = .ok (.laload, 1) := by decide +kernel
theorem dL_law_159 : decode cL_law 159 = .ok (.iload 6, 2) := by decide +kernel
theorem dL_law_161 : decode cL_law 161 = .ok (.i2l, 1) := by decide +kernel
theorem dL_law_162 : decode cL_law 162 = .ok (.lcmp, 1) := by decide +kernel
theorem dL_law_163 : decode cL_law 163 = .ok (.ifCond .eq 5, 3) := by decide +kernel
theorem dL_law_166 : decode cL_law 166 = .ok (.iconst 0, 1) := by decide +kernel
theorem dL_law_167 : decode cL_law 167 = .ok (.ireturn, 1) := by decide +kernel
theorem dL_law_168 : decode cL_law 168 = .ok (.goto 315, 3) := by decide +kernel
theorem dL_law_171 : decode cL_law 171 = .ok (.aload_n 1, 1) := by decide +kernel
theorem dL_law_172 : decode cL_law 172 = .ok (.aload_n 3, 1) := by decide +kernel
theorem dL_law_173 : decode cL_law 173 = .ok (.invokestatic 43, 3) := by decide +kernel
theorem dL_law_176 : decode cL_law 176 = .ok (.istore 5, 2) := by decide +kernel
theorem dL_law_178 : decode cL_law 178 = .ok (.aload_n 2, 1) := by decide +kernel
theorem dL_law_179 : decode cL_law 179 = .ok (.invokevirtual 45, 3) := by decide +kernel
theorem dL_law_182 : decode cL_law 182 = .ok (.istore 6, 2) := by decide +kernel
theorem dL_law_184 : decode cL_law 184 = .ok (.aload_n 2, 1) := by decide +kernel
theorem dL_law_185 : decode cL_law 185 = .ok (.invokevirtual 40, 3) := by decide +kernel
theorem dL_law_188 : decode cL_law 188 = .ok (.iload 5, 2) := by decide +kernel
theorem dL_law_190 : decode cL_law 190 = .ok (.if_icmp .eq 5, 3) := by decide +kernel
theorem dL_law_193 : decode cL_law 193 = .ok (.iconst 0, 1) := by decide +kernel
theorem dL_law_194 : decode cL_law 194 = .ok (.ireturn, 1) := by decide +kernel
theorem dL_law_195 : decode cL_law 195 = .ok (.iload 5, 2) := by decide +kernel
theorem dL_law_197 : decode cL_law 197 = .ok (.ifCond .ne 15, 3) := by decide +kernel
theorem dL_law_200 : decode cL_law 200 = .ok (.aload_n 3, 1) := by decide +kernel
theorem dL_law_201 : decode cL_law 201 = .ok (.iconst 0, 1) := by decide +kernel
theorem dL_law_202 : decode cL_law 202 = .ok (.laload, 1) := by decide +kernel
theorem dL_law_203 : decode cL_law 203 = .ok (.iload 6, 2) := by decide +kernel
theorem dL_law_205 : decode cL_law 205 = .ok (.i2l, 1) := by decide +kernel
theorem dL_law_206 : decode cL_law 206 = .ok (.lcmp, 1) := by decide +kernel
theorem dL_law_207 : decode cL_law 207 = .ok (.ifCond .eq 5, 3) := by decide +kernel
theorem dL_law_210 : decode cL_law 210 = .ok (.iconst 0, 1) := by decide +kernel
theorem dL_law_211 : decode cL_law 211 = .ok (.ireturn, 1) := by decide +kernel
theorem dL_law_212 : decode cL_law 212 = .ok (.goto 271, 3) := by decide +kernel
theorem dL_law_215 : decode cL_law 215 = .ok (.aload_n 1, 1) := by decide +kernel
theorem dL_law_216 : decode cL_law 216 = .ok (.invokevirtual 46, 3) := by decide +kernel
theorem dL_law_219 : decode cL_law 219 = .ok (.aload_n 2, 1) := by decide +kernel
theorem dL_law_220 : decode cL_law 220 = .ok (.invokevirtual 49, 3) := by decide +kernel
theorem dL_law_223 : decode cL_law 223 = .ok (.if_icmp .eq 260, 3) := by decide +kernel
theorem dL_law_226 : decode cL_law 226 = .ok (.iconst 0, 1) := by decide +kernel
theorem dL_law_227 : decode cL_law 227 = .ok (.ireturn, 1) := by decide +kernel
theorem dL_law_228 : decode cL_law 228 = .ok (.aload_n 1, 1) := by decide +kernel
theorem dL_law_229 : decode cL_law 229 = .ok (.aload_n 3, 1) := by decide +kernel
theorem dL_law_230 : decode cL_law 230 = .ok (.invokestatic 50, 3) := by decide +kernel
theorem dL_law_233 : decode cL_law 233 = .ok (.istore 5, 2) := by decide +kernel
theorem dL_law_235 : decode cL_law 235 = .ok (.aload_n 2, 1) := by decide +kernel
theorem dL_law_236 : decode cL_law 236 = .ok (.invokevirtual 52, 3) := by decide +kernel
theorem dL_law_239 : decode cL_law 239 = .ok (.istore 6, 2) := by decide +kernel
theorem dL_law_241 : decode cL_law 241 = .ok (.aload_n 2, 1) := by decide +kernel
theorem dL_law_242 : decode cL_law 242 = .ok (.invokevirtual 40, 3) := by decide +kernel
theorem dL_law_245 : decode cL_law 245 = .ok (.iload 5, 2) := by decide +kernel
theorem dL_law_247 : decode cL_law 247 = .ok (.if_icmp .eq 5, 3) := by decide +kernel
theorem dL_law_250 : decode cL_law 250 = .ok (.iconst 0, 1) := by decide +kernel
theorem dL_law_251 : decode cL_law 251 = .ok (.ireturn, 1) := by decide +kernel
theorem dL_law_252 : decode cL_law 252 = .ok (.iload 5, 2) := by decide +kernel
theorem dL_law_254 : decode cL_law 254 = .ok (.ifCond .ne 15, 3) := by decide +kernel
theorem dL_law_257 : decode cL_law 257 = .ok (.aload_n 3, 1) := by decide +kernel
theorem dL_law_258 : decode cL_law 258 = .ok (.iconst 0, 1) := by decide +kernel
theorem dL_law_259 : decode cL_law 259 = .ok (.laload, 1) := by decide +kernel
theorem dL_law_260 : decode cL_law 260 = .ok (.iload 6, 2) := by decide +kernel
theorem dL_law_262 : decode cL_law 262 = .ok (.i2l, 1) := by decide +kernel
theorem dL_law_263 : decode cL_law 263 = .ok (.lcmp, 1) := by decide +kernel
theorem dL_law_264 : decode cL_law 264 = .ok (.ifCond .eq 5, 3) := by decide +kernel
theorem dL_law_267 : decode cL_law 267 = .ok (.iconst 0, 1) := by decide +kernel
theorem dL_law_268 : decode cL_law 268 = .ok (.ireturn, 1) := by decide +kernel
theorem dL_law_269 : decode cL_law 269 = .ok (.goto 214, 3) := by decide +kernel
theorem dL_law_272 : decode cL_law 272 = .ok (.aload_n 1, 1) := by decide +kernel
theorem dL_law_273 : decode cL_law 273 = .ok (.aload_n 0, 1) := by decide +kernel
theorem dL_law_274 : decode cL_law 274 = .ok (.iload 4, 2) := by decide +kernel
theorem dL_law_276 : decode cL_law 276 = .ok (.iconst 1, 1) := by decide +kernel
theorem dL_law_277 : decode cL_law 277 = .ok (.iadd, 1) := by decide +kernel
theorem dL_law_278 : decode cL_law 278 = .ok (.iaload, 1) := by decide +kernel
theorem dL_law_279 : decode cL_law 279 = .ok (.invokevirtual 53, 3) := by decide +kernel
theorem dL_law_282 : decode cL_law 282 = .ok (.aload_n 2, 1) := by decide +kernel
theorem dL_law_283 : decode cL_law 283 = .ok (.aload_n 0, 1) := by decide +kernel
theorem dL_law_284 : decode cL_law 284 = .ok (.iload 4, 2) := by decide +kernel
theorem dL_law_286 : decode cL_law 286 = .ok (.iconst 1, 1) := by decide +kernel
theorem dL_law_287 : decode cL_law 287 = .ok (.iadd, 1) := by decide +kernel
theorem dL_law_288 : decode cL_law 288 = .ok (.iaload, 1) := by decide +kernel
theorem dL_law_289 : decode cL_law 289 = .ok (.invokevirtual 57, 3) := by decide +kernel
theorem dL_law_292 : decode cL_law 292 = .ok (.if_icmp .eq 191, 3) := by decide +kernel
theorem dL_law_295 : decode cL_law 295 = .ok (.iconst 0, 1) := by decide +kernel
theorem dL_law_296 : decode cL_law 296 = .ok (.ireturn, 1) := by decide +kernel
theorem dL_law_297 : decode cL_law 297 = .ok (.aload_n 1, 1) := by decide +kernel
theorem dL_law_298 : decode cL_law 298 = .ok (.aload_n 0, 1) := by decide +kernel
theorem dL_law_299 : decode cL_law 299 = .ok (.iload 4, 2) := by decide +kernel
theorem dL_law_301 : decode cL_law 301 = .ok (.iconst 1, 1) := by decide +kernel
theorem dL_law_302 : decode cL_law 302 = .ok (.iadd, 1) := by decide +kernel
theorem dL_law_303 : decode cL_law 303 = .ok (.iaload, 1) := by decide +kernel
theorem dL_law_304 : decode cL_law 304 = .ok (.invokevirtual 58, 3) := by decide +kernel
theorem dL_law_307 : decode cL_law 307 = .ok (.aload_n 2, 1) := by decide +kernel
theorem dL_law_308 : decode cL_law 308 = .ok (.aload_n 0, 1) := by decide +kernel
theorem dL_law_309 : decode cL_law 309 = .ok (.iload 4, 2) := by decide +kernel
theorem dL_law_311 : decode cL_law 311 = .ok (.iconst 1, 1) := by decide +kernel
theorem dL_law_312 : decode cL_law 312 = .ok (.iadd, 1) := by decide +kernel
theorem dL_law_313 : decode cL_law 313 = .ok (.iaload, 1) := by decide +kernel
theorem dL_law_314 : decode cL_law 314 = .ok (.invokevirtual 61, 3) := by decide +kernel
theorem dL_law_317 : decode cL_law 317 = .ok (.if_icmp .eq 166, 3) := by decide +kernel
theorem dL_law_320 : decode cL_law 320 = .ok (.iconst 0, 1) := by decide +kernel
theorem dL_law_321 : decode cL_law 321 = .ok (.ireturn, 1) := by decide +kernel
theorem dL_law_322 : decode cL_law 322 = .ok (.aload_n 1, 1) := by decide +kernel
theorem dL_law_323 : decode cL_law 323 = .ok (.aload_n 0, 1) := by decide +kernel
theorem dL_law_324 : decode cL_law 324 = .ok (.iload 4, 2) := by decide +kernel
theorem dL_law_326 : decode cL_law 326 = .ok (.iconst 1, 1) := by decide +kernel
theorem dL_law_327 : decode cL_law 327 = .ok (.iadd, 1) := by decide +kernel
theorem dL_law_328 : decode cL_law 328 = .ok (.iaload, 1) := by decide +kernel
theorem dL_law_329 : decode cL_law 329 = .ok (.invokevirtual 62, 3) := by decide +kernel
theorem dL_law_332 : decode cL_law 332 = .ok (.aload_n 2, 1) := by decide +kernel
theorem dL_law_333 : decode cL_law 333 = .ok (.aload_n 0, 1) := by decide +kernel
theorem dL_law_334 : decode cL_law 334 = .ok (.iload 4, 2) := by decide +kernel
theorem dL_law_336 : decode cL_law 336 = .ok (.iconst 1, 1) := by decide +kernel
theorem dL_law_337 : decode cL_law 337 = .ok (.iadd, 1) := by decide +kernel
theorem dL_law_338 : decode cL_law 338 = .ok (.iaload, 1) := by decide +kernel
theorem dL_law_339 : decode cL_law 339 = .ok (.invokevirtual 65, 3) := by decide +kernel
theorem dL_law_342 : decode cL_law 342 = .ok (.if_icmp .eq 141, 3) := by decide +kernel
theorem dL_law_345 : decode cL_law 345 = .ok (.iconst 0, 1) := by decide +kernel
theorem dL_law_346 : decode cL_law 346 = .ok (.ireturn, 1) := by decide +kernel
theorem dL_law_347 : decode cL_law 347 = .ok (.aload_n 1, 1) := by decide +kernel
theorem dL_law_348 : decode cL_law 348 = .ok (.aload_n 0, 1) := by decide +kernel
theorem dL_law_349 : decode cL_law 349 = .ok (.iload 4, 2) := by decide +kernel
theorem dL_law_351 : decode cL_law 351 = .ok (.iconst 1, 1) := by decide +kernel
theorem dL_law_352 : decode cL_law 352 = .ok (.iadd, 1) := by decide +kernel
theorem dL_law_353 : decode cL_law 353 = .ok (.iaload, 1) := by decide +kernel
theorem dL_law_354 : decode cL_law 354 = .ok (.aload_n 0, 1) := by decide +kernel
theorem dL_law_355 : decode cL_law 355 = .ok (.iload 4, 2) := by decide +kernel
theorem dL_law_357 : decode cL_law 357 = .ok (.iconst 2, 1) := by decide +kernel
theorem dL_law_358 : decode cL_law 358 = .ok (.iadd, 1) := by decide +kernel
theorem dL_law_359 : decode cL_law 359 = .ok (.iaload, 1) := by decide +kernel
theorem dL_law_360 : decode cL_law 360 = .ok (.invokevirtual 66, 3) := by decide +kernel
theorem dL_law_363 : decode cL_law 363 = .ok (.aload_n 2, 1) := by decide +kernel
theorem dL_law_364 : decode cL_law 364 = .ok (.aload_n 0, 1) := by decide +kernel
theorem dL_law_365 : decode cL_law 365 = .ok (.iload 4, 2) := by decide +kernel
theorem dL_law_367 : decode cL_law 367 = .ok (.iconst 1, 1) := by decide +kernel
theorem dL_law_368 : decode cL_law 368 = .ok (.iadd, 1) := by decide +kernel
theorem dL_law_369 : decode cL_law 369 = .ok (.iaload, 1) := by decide +kernel
theorem dL_law_370 : decode cL_law 370 = .ok (.aload_n 0, 1) := by decide +kernel
theorem dL_law_371 : decode cL_law 371 = .ok (.iload 4, 2) := by decide +kernel
theorem dL_law_373 : decode cL_law 373 = .ok (.iconst 2, 1) := by decide +kernel
theorem dL_law_374 : decode cL_law 374 = .ok (.iadd, 1) := by decide +kernel
theorem dL_law_375 : decode cL_law 375 = .ok (.iaload, 1) := by decide +kernel
theorem dL_law_376 : decode cL_law 376 = .ok (.invokevirtual 70, 3) := by decide +kernel
theorem dL_law_379 : decode cL_law 379 = .ok (.if_icmp .eq 104, 3) := by decide +kernel
theorem dL_law_382 : decode cL_law 382 = .ok (.iconst 0, 1) := by decide +kernel
theorem dL_law_383 : decode cL_law 383 = .ok (.ireturn, 1) := by decide +kernel
theorem dL_law_384 : decode cL_law 384 = .ok (.aload_n 1, 1) := by decide +kernel
theorem dL_law_385 : decode cL_law 385 = .ok (.aload_n 0, 1) := by decide +kernel
theorem dL_law_386 : decode cL_law 386 = .ok (.iload 4, 2) := by decide +kernel
theorem dL_law_388 : decode cL_law 388 = .ok (.iconst 1, 1) := by decide +kernel
theorem dL_law_389 : decode cL_law 389 = .ok (.iadd, 1) := by decide +kernel
theorem dL_law_390 : decode cL_law 390 = .ok (.iaload, 1) := by decide +kernel
theorem dL_law_391 : decode cL_law 391 = .ok (.invokevirtual 71, 3) := by decide +kernel
theorem dL_law_394 : decode cL_law 394 = .ok (.aload_n 2, 1) := by decide +kernel
theorem dL_law_395 : decode cL_law 395 = .ok (.aload_n 0, 1) := by decide +kernel
theorem dL_law_396 : decode cL_law 396 = .ok (.iload 4, 2) := by decide +kernel
theorem dL_law_398 : decode cL_law 398 = .ok (.iconst 1, 1) := by decide +kernel
theorem dL_law_399 : decode cL_law 399 = .ok (.iadd, 1) := by decide +kernel
theorem dL_law_400 : decode cL_law 400 = .ok (.iaload, 1) := by decide +kernel
theorem dL_law_401 : decode cL_law 401 = .ok (.invokevirtual 74, 3) := by decide +kernel
theorem dL_law_404 : decode cL_law 404 = .ok (.if_icmp .eq 79, 3) := by decide +kernel
theorem dL_law_407 : decode cL_law 407 = .ok (.iconst 0, 1) := by decide +kernel
theorem dL_law_408 : decode cL_law 408 = .ok (.ireturn, 1) := by decide +kernel
theorem dL_law_409 : decode cL_law 409 = .ok (.aload_n 1, 1) := by decide +kernel
theorem dL_law_410 : decode cL_law 410 = .ok (.aload_n 0, 1) := by decide +kernel
theorem dL_law_411 : decode cL_law 411 = .ok (.iload 4, 2) := by decide +kernel
theorem dL_law_413 : decode cL_law 413 = .ok (.iconst 1, 1) := by decide +kernel
theorem dL_law_414 : decode cL_law 414 = .ok (.iadd, 1) := by decide +kernel
theorem dL_law_415 : decode cL_law 415 = .ok (.iaload, 1) := by decide +kernel
theorem dL_law_416 : decode cL_law 416 = .ok (.aload_n 0, 1) := by decide +kernel
theorem dL_law_417 : decode cL_law 417 = .ok (.iload 4, 2) := by decide +kernel
theorem dL_law_419 : decode cL_law 419 = .ok (.iconst 2, 1) := by decide +kernel
theorem dL_law_420 : decode cL_law 420 = .ok (.iadd, 1) := by decide +kernel
theorem dL_law_421 : decode cL_law 421 = .ok (.iaload, 1) := by decide +kernel
theorem dL_law_422 : decode cL_law 422 = .ok (.invokevirtual 75, 3) := by decide +kernel
theorem dL_law_425 : decode cL_law 425 = .ok (.aload_n 2, 1) := by decide +kernel
theorem dL_law_426 : decode cL_law 426 = .ok (.aload_n 0, 1) := by decide +kernel
theorem dL_law_427 : decode cL_law 427 = .ok (.iload 4, 2) := by decide +kernel
theorem dL_law_429 : decode cL_law 429 = .ok (.iconst 1, 1) := by decide +kernel
theorem dL_law_430 : decode cL_law 430 = .ok (.iadd, 1) := by decide +kernel
theorem dL_law_431 : decode cL_law 431 = .ok (.iaload, 1) := by decide +kernel
theorem dL_law_432 : decode cL_law 432 = .ok (.aload_n 0, 1) := by decide +kernel
theorem dL_law_433 : decode cL_law 433 = .ok (.iload 4, 2) := by decide +kernel
theorem dL_law_435 : decode cL_law 435 = .ok (.iconst 2, 1) := by decide +kernel
theorem dL_law_436 : decode cL_law 436 = .ok (.iadd, 1) := by decide +kernel
theorem dL_law_437 : decode cL_law 437 = .ok (.iaload, 1) := by decide +kernel
theorem dL_law_438 : decode cL_law 438 = .ok (.invokevirtual 78, 3) := by decide +kernel
theorem dL_law_441 : decode cL_law 441 = .ok (.if_icmp .eq 42, 3) := by decide +kernel
theorem dL_law_444 : decode cL_law 444 = .ok (.iconst 0, 1) := by decide +kernel
theorem dL_law_445 : decode cL_law 445 = .ok (.ireturn, 1) := by decide +kernel
theorem dL_law_446 : decode cL_law 446 = .ok (.aload_n 1, 1) := by decide +kernel
theorem dL_law_447 : decode cL_law 447 = .ok (.aload_n 0, 1) := by decide +kernel
theorem dL_law_448 : decode cL_law 448 = .ok (.iload 4, 2) := by decide +kernel
theorem dL_law_450 : decode cL_law 450 = .ok (.iconst 1, 1) := by decide +kernel
theorem dL_law_451 : decode cL_law 451 = .ok (.iadd, 1) := by decide +kernel
theorem dL_law_452 : decode cL_law 452 = .ok (.iaload, 1) := by decide +kernel
theorem dL_law_453 : decode cL_law 453 = .ok (.aload_n 0, 1) := by decide +kernel
theorem dL_law_454 : decode cL_law 454 = .ok (.iload 4, 2) := by decide +kernel
theorem dL_law_456 : decode cL_law 456 = .ok (.iconst 2, 1) := by decide +kernel
theorem dL_law_457 : decode cL_law 457 = .ok (.iadd, 1) := by decide +kernel
theorem dL_law_458 : decode cL_law 458 = .ok (.iaload, 1) := by decide +kernel
theorem dL_law_459 : decode cL_law 459 = .ok (.invokevirtual 79, 3) := by decide +kernel
theorem dL_law_462 : decode cL_law 462 = .ok (.aload_n 2, 1) := by decide +kernel
theorem dL_law_463 : decode cL_law 463 = .ok (.aload_n 0, 1) := by decide +kernel
theorem dL_law_464 : decode cL_law 464 = .ok (.iload 4, 2) := by decide +kernel
theorem dL_law_466 : decode cL_law 466 = .ok (.iconst 1, 1) := by decide +kernel
theorem dL_law_467 : decode cL_law 467 = .ok (.iadd, 1) := by decide +kernel
theorem dL_law_468 : decode cL_law 468 = .ok (.iaload, 1) := by decide +kernel
theorem dL_law_469 : decode cL_law 469 = .ok (.aload_n 0, 1) := by decide +kernel
theorem dL_law_470 : decode cL_law 470 = .ok (.iload 4, 2) := by decide +kernel
theorem dL_law_472 : decode cL_law 472 = .ok (.iconst 2, 1) := by decide +kernel
theorem dL_law_473 : decode cL_law 473 = .ok (.iadd, 1) := by decide +kernel
theorem dL_law_474 : decode cL_law 474 = .ok (.iaload, 1) := by decide +kernel
theorem dL_law_475 : decode cL_law 475 = .ok (.invokevirtual 82, 3) := by decide +kernel
theorem dL_law_478 : decode cL_law 478 = .ok (.if_icmp .eq 5, 3) := by decide +kernel
theorem dL_law_481 : decode cL_law 481 = .ok (.iconst 0, 1) := by decide +kernel
theorem dL_law_482 : decode cL_law 482 = .ok (.ireturn, 1) := by decide +kernel
theorem dL_law_483 : decode cL_law 483 = .ok (.iinc 4 3, 3) := by decide +kernel
theorem dL_law_486 : decode cL_law 486 = .ok (.goto (-463), 3) := by decide +kernel
theorem dL_law_489 : decode cL_law 489 = .ok (.iconst 1, 1) := by decide +kernel
theorem dL_law_490 : decode cL_law 490 = .ok (.ireturn, 1) := by decide +kernel
def w_L_document (l : Launch) (G : mv_G) (d : Nat) (u0 : Nat) (u1 : Nat) (h : mv_H) (Q : mv_O → mv_H → Prop) : Prop :=
  vob h u0 14 (
  mv_rq l G mX12_document d 0 (mv_in [.ref u0] 2) [] h (vI (fun E h1 => mv_xq l G mL_document (d + 1) 3 [some (.ref u0), some (.ref u1), none] E h1 Q) (fun x3 h3 =>
  vsl G h3 u1 0 x3.toInt64 fun h7 =>
  Q (.inl (some (.int 0))) h7)))
theorem v_L_document {l : Launch} {G : mv_G} {d : Nat} {u0 : Nat} {u1 : Nat} {h : mv_H} {Q : mv_O → mv_H → Prop} (hG : mv_ok G) (hq : w_L_document l G d u0 u1 h Q) : mv_rq l G mL_document (d + 1) 0 (mv_in [.ref u0, .ref u1] 3) [] h Q := by
  unfold w_L_document at hq
  show mv_rq l G mL_document (d + 1) 0 [some (.ref u0), some (.ref u1), none] [] h _
  refine q_aload_n dL_document_0 rfl ?_
  refine q_iconst (v := 0) dL_document_1 (by decide) ?_
  refine q_aload_n dL_document_2 rfl ?_
  obtain ⟨⟨fs3, f3⟩, hq⟩ := vob_e hq
  refine q_cV (Y := mX12_document) (As := []) (st := [.int 0, .ref u1]) (b := u0) (ci := 14) vc_X12_document dL_document_3 ml_RL_7 rfl f3 rfl (Nat.le_of_ble_eq_true rfl) rfl (Nat.le_of_ble_eq_true rfl) hq (fun v h1 hq1 => ?_) (fun E h1 hq1 => ?_)
  rotate_left
  ·
    rcases hq1 with hq1 | ⟨E1, e1, hq1⟩
    · obtain ⟨_, z, _⟩ := hq1; exact nomatch z
    · obtain rfl := Sum.inr.inj e1; exact hq1
  rcases hq1 with hq1 | ⟨E1, e1, hq1⟩
  rotate_left
  · exact nomatch e1
  obtain ⟨x3, hv, hq⟩ := hq1
  obtain rfl := Sum.inl.inj hv
  clear hv
  obtain ⟨h3, eh3⟩ : ∃ z, z = h1 := ⟨_, rfl⟩
  rw [← eh3] at hq ⊢
  clear eh3
  show mv_rq l G mL_document (d + 1) 6 [some (.ref u0), some (.ref u1), none] [.int x3, .int 0, .ref u1] h3 _
  refine q_i2l dL_document_6 ?_
  obtain ⟨n7, f7, h7, g7, b7, i7, e7, hq⟩ := vsl_e hq
  refine q_last (t0 := 3) dL_document_7 (mv_tJ hG) b7 g7 i7 ?_
  rw [← e7]
  show mv_rq l G mL_document (d + 1) 8 [some (.ref u0), some (.ref u1), none] [] h7 _
  refine q_goto (tgt := 14) dL_document_8 (by decide) ?_
  refine q_iconst (v := 0) dL_document_14 (by decide) ?_
  exact q_iret (ty := .int) dL_document_15 rfl rfl hq
def w_L_query (l : Launch) (G : mv_G) (d : Nat) (u0 : Nat) (u1 : Nat) (h : mv_H) (Q : mv_O → mv_H → Prop) : Prop :=
  vob h u0 14 (
  mv_rq l G mX12_query d 0 (mv_in [.ref u0] 1) [] h (vI (fun E h1 => mv_xq l G mL_query (d + 1) 3 [some (.ref u0), some (.ref u1), none] E h1 Q) (fun x3 h3 =>
  vsl G h3 u1 0 x3.toInt64 fun h7 =>
  Q (.inl (some (.int 0))) h7)))
theorem v_L_query {l : Launch} {G : mv_G} {d : Nat} {u0 : Nat} {u1 : Nat} {h : mv_H} {Q : mv_O → mv_H → Prop} (hG : mv_ok G) (hq : w_L_query l G d u0 u1 h Q) : mv_rq l G mL_query (d + 1) 0 (mv_in [.ref u0, .ref u1] 3) [] h Q := by
  unfold w_L_query at hq
  show mv_rq l G mL_query (d + 1) 0 [some (.ref u0), some (.ref u1), none] [] h _
  refine q_aload_n dL_query_0 rfl ?_
  refine q_iconst (v := 0) dL_query_1 (by decide) ?_
  refine q_aload_n dL_query_2 rfl ?_
  obtain ⟨⟨fs3, f3⟩, hq⟩ := vob_e hq
  refine q_cV (Y := mX12_query) (As := []) (st := [.int 0, .ref u1]) (b := u0) (ci := 14) vc_X12_query dL_query_3 ml_RL_15 rfl f3 rfl (Nat.le_of_ble_eq_true rfl) rfl (Nat.le_of_ble_eq_true rfl) hq (fun v h1 hq1 => ?_) (fun E h1 hq1 => ?_)
  rotate_left
  ·
    rcases hq1 with hq1 | ⟨E1, e1, hq1⟩
    · obtain ⟨_, z, _⟩ := hq1; exact nomatch z
    · obtain rfl := Sum.inr.inj e1; exact hq1
  rcases hq1 with hq1 | ⟨E1, e1, hq1⟩
  rotate_left
  · exact nomatch e1
  obtain ⟨x3, hv, hq⟩ := hq1
  obtain rfl := Sum.inl.inj hv
  clear hv
  obtain ⟨h3, eh3⟩ : ∃ z, z = h1 := ⟨_, rfl⟩
  rw [← eh3] at hq ⊢
  clear eh3
  show mv_rq l G mL_query (d + 1) 6 [some (.ref u0), some (.ref u1), none] [.int x3, .int 0, .ref u1] h3 _
  refine q_i2l dL_query_6 ?_
  obtain ⟨n7, f7, h7, g7, b7, i7, e7, hq⟩ := vsl_e hq
  refine q_last (t0 := 3) dL_query_7 (mv_tJ hG) b7 g7 i7 ?_
  rw [← e7]
  show mv_rq l G mL_query (d + 1) 8 [some (.ref u0), some (.ref u1), none] [] h7 _
  refine q_goto (tgt := 14) dL_query_8 (by decide) ?_
  refine q_iconst (v := 0) dL_query_14 (by decide) ?_
  exact q_iret (ty := .int) dL_query_15 rfl rfl hq
def w_L_find (l : Launch) (G : mv_G) (d : Nat) (u0 : Nat) (u1 : Nat) (h : mv_H) (Q : mv_O → mv_H → Prop) : Prop :=
  vob h u0 14 (
  mv_rq l G mX12_find d 0 (mv_in [.ref u0] 1) [] h (vI (fun E h1 => mv_xq l G mL_find (d + 1) 3 [some (.ref u0), some (.ref u1), none] E h1 Q) (fun x3 h3 =>
  vsl G h3 u1 0 x3.toInt64 fun h7 =>
  Q (.inl (some (.int 0))) h7)))
theorem v_L_find {l : Launch} {G : mv_G} {d : Nat} {u0 : Nat} {u1 : Nat} {h : mv_H} {Q : mv_O → mv_H → Prop} (hG : mv_ok G) (hq : w_L_find l G d u0 u1 h Q) : mv_rq l G mL_find (d + 1) 0 (mv_in [.ref u0, .ref u1] 3) [] h Q := by
  unfold w_L_find at hq
  show mv_rq l G mL_find (d + 1) 0 [some (.ref u0), some (.ref u1), none] [] h _
  refine q_aload_n dL_find_0 rfl ?_
  refine q_iconst (v := 0) dL_find_1 (by decide) ?_
  refine q_aload_n dL_find_2 rfl ?_
  obtain ⟨⟨fs3, f3⟩, hq⟩ := vob_e hq
  refine q_cV (Y := mX12_find) (As := []) (st := [.int 0, .ref u1]) (b := u0) (ci := 14) vc_X12_find dL_find_3 ml_RL_18 rfl f3 rfl (Nat.le_of_ble_eq_true rfl) rfl (Nat.le_of_ble_eq_true rfl) hq (fun v h1 hq1 => ?_) (fun E h1 hq1 => ?_)
  rotate_left
  ·
    rcases hq1 with hq1 | ⟨E1, e1, hq1⟩
    · obtain ⟨_, z, _⟩ := hq1; exact nomatch z
    · obtain rfl := Sum.inr.inj e1; exact hq1
  rcases hq1 with hq1 | ⟨E1, e1, hq1⟩
  rotate_left
  · exact nomatch e1
  obtain ⟨x3, hv, hq⟩ := hq1
  obtain rfl := Sum.inl.inj hv
  clear hv
  obtain ⟨h3, eh3⟩ : ∃ z, z = h1 := ⟨_, rfl⟩
  rw [← eh3] at hq ⊢
  clear eh3
  show mv_rq l G mL_find (d + 1) 6 [some (.ref u0), some (.ref u1), none] [.int x3, .int 0, .ref u1] h3 _
  refine q_i2l dL_find_6 ?_
  obtain ⟨n7, f7, h7, g7, b7, i7, e7, hq⟩ := vsl_e hq
  refine q_last (t0 := 3) dL_find_7 (mv_tJ hG) b7 g7 i7 ?_
  rw [← e7]
  show mv_rq l G mL_find (d + 1) 8 [some (.ref u0), some (.ref u1), none] [] h7 _
  refine q_goto (tgt := 17) dL_find_8 (by decide) ?_
  refine q_iconst (v := 0) dL_find_17 (by decide) ?_
  exact q_iret (ty := .int) dL_find_18 rfl rfl hq
def w_L_law (l : Launch) (G : mv_G) (d : Nat) (u0 : Nat) (h : mv_H) (Q : mv_O → mv_H → Prop) : Prop :=
  vnw h 10 (.inr (14, [.null, .null, .null, .null, .null, .null, .null, .null, .null, .int 0])) fun a0 h0 =>
  mv_rq l G mX12_init d 0 (mv_in [.ref a0] 1) [] h0 (vU (fun E h1 => Q (.inr E) h1) (fun h4 =>
  vnw h4 88 (.inr (15, [.int 0, .null, .int 0, .int 0, .null, .int 0, .int 0, .int 0, .int 0, .int 0, .int 0, .null, .null, .null, .null, .null, .null, .null, .null, .null, .null, .int 0, .int 0, .int 0, .int 0, .int 0, .int 0, .int 0, .int 0, .int 0, .int 0, .int 0, .null, .null, .null, .null, .null, .null, .null, .null, .null, .null, .null, .null, .null, .null, .null, .null, .null, .null, .null, .null, .null, .null, .null, .int 0, .null, .null, .null, .int 0, .int 0, .int 0, .null, .null, .null, .null, .null, .null, .null, .null, .null, .null, .null, .null, .null, .null, .int 0, .null, .null, .null, .null, .null, .int 0, .null, .int 0, .null, .int 0, .int 0])) fun a8 h8 =>
  mv_rq l G mX13_init d 0 (mv_in [.ref a8] 1) [] h8 (vU (fun E h1 => Q (.inr E) h1) (fun h12 =>
  vnw h12 1 (.inl (mv_t G 3, 1, .inr (.inl (fun _ => 0)))) fun a17 h17 =>
  mv_rq l G mL_law (d + 1) 23 [some (.ref u0), some (.ref a0), some (.ref a8), some (.ref a17), some (.int 0), none, none] [] h17 Q))))
theorem v_L_law {l : Launch} {G : mv_G} {d : Nat} {u0 : Nat} {h : mv_H} {Q : mv_O → mv_H → Prop} (hG : mv_ok G) (hq : w_L_law l G d u0 h Q) : mv_rq l G mL_law (d + 1) 0 (mv_in [.ref u0] 7) [] h Q := by
  unfold w_L_law at hq
  show mv_rq l G mL_law (d + 1) 0 [some (.ref u0), none, none, none, none, none, none] [] h _
  obtain ⟨a0, h0, ea0, eh0, hq⟩ := vnw_e hq
  refine q_new (fs := [.null, .null, .null, .null, .null, .null, .null, .null, .null, .int 0]) (ci := 14) (T := TX12) (N := 10) tyX12 tyX12_ok dL_law_0 cl_RL_8 inst_RX12 init_RX12 uin_RX12 rfl (by decide) ?_
  rw [← eh0, ← ea0]
  show mv_rq l G mL_law (d + 1) 3 [some (.ref u0), none, none, none, none, none, none] [.ref a0] h0 _
  refine q_dup dL_law_3 rfl ?_
  refine q_cI (Y := mX12_init) (As := []) (st := [.ref a0]) (b := a0) ic_X12_init dL_law_4 ml_RL_25 rfl (Nat.le_of_ble_eq_true rfl) rfl (Nat.le_of_ble_eq_true rfl) hq (fun v h1 hq1 => ?_) (fun E h1 hq1 => ?_)
  rotate_left
  ·
    rcases hq1 with hq1 | ⟨E1, e1, hq1⟩
    · exact nomatch hq1.1
    · obtain rfl := Sum.inr.inj e1; exact q_xout (fun z hz => nomatch hz) hq1
  rcases hq1 with hq1 | ⟨E1, e1, hq1⟩
  rotate_left
  · exact nomatch e1
  obtain ⟨hv, hq⟩ := hq1
  obtain rfl := Sum.inl.inj hv
  clear hv
  obtain ⟨h4, eh4⟩ : ∃ z, z = h1 := ⟨_, rfl⟩
  rw [← eh4] at hq ⊢
  clear eh4
  show mv_rq l G mL_law (d + 1) 7 [some (.ref u0), none, none, none, none, none, none] [.ref a0] h4 _
  refine q_astore_n dL_law_7 (Nat.le_of_ble_eq_true rfl) rfl ?_
  show mv_rq l G mL_law (d + 1) 8 [some (.ref u0), some (.ref a0), none, none, none, none, none] [] h4 _
  obtain ⟨a8, h8, ea8, eh8, hq⟩ := vnw_e hq
  refine q_new (fs := [.int 0, .null, .int 0, .int 0, .null, .int 0, .int 0, .int 0, .int 0, .int 0, .int 0, .null, .null, .null, .null, .null, .null, .null, .null, .null, .null, .int 0, .int 0, .int 0, .int 0, .int 0, .int 0, .int 0, .int 0, .int 0, .int 0, .int 0, .null, .null, .null, .null, .null, .null, .null, .null, .null, .null, .null, .null, .null, .null, .null, .null, .null, .null, .null, .null, .null, .null, .null, .int 0, .null, .null, .null, .int 0, .int 0, .int 0, .null, .null, .null, .null, .null, .null, .null, .null, .null, .null, .null, .null, .null, .null, .int 0, .null, .null, .null, .null, .null, .int 0, .null, .int 0, .null, .int 0, .int 0]) (ci := 15) (T := TX13) (N := 88) tyX13 tyX13_ok dL_law_8 cl_RL_26 inst_RX13 init_RX13 uin_RX13 rfl (by decide) ?_
  rw [← eh8, ← ea8]
  show mv_rq l G mL_law (d + 1) 11 [some (.ref u0), some (.ref a0), none, none, none, none, none] [.ref a8] h8 _
  refine q_dup dL_law_11 rfl ?_
  refine q_cI (Y := mX13_init) (As := []) (st := [.ref a8]) (b := a8) ic_X13_init dL_law_12 ml_RL_28 rfl (Nat.le_of_ble_eq_true rfl) rfl (Nat.le_of_ble_eq_true rfl) hq (fun v h1 hq1 => ?_) (fun E h1 hq1 => ?_)
  rotate_left
  ·
    rcases hq1 with hq1 | ⟨E1, e1, hq1⟩
    · exact nomatch hq1.1
    · obtain rfl := Sum.inr.inj e1; exact q_xout (fun z hz => nomatch hz) hq1
  rcases hq1 with hq1 | ⟨E1, e1, hq1⟩
  rotate_left
  · exact nomatch e1
  obtain ⟨hv, hq⟩ := hq1
  obtain rfl := Sum.inl.inj hv
  clear hv
  obtain ⟨h12, eh12⟩ : ∃ z, z = h1 := ⟨_, rfl⟩
  rw [← eh12] at hq ⊢
  clear eh12
  show mv_rq l G mL_law (d + 1) 15 [some (.ref u0), some (.ref a0), none, none, none, none, none] [.ref a8] h12 _
  refine q_astore_n dL_law_15 (Nat.le_of_ble_eq_true rfl) rfl ?_
  show mv_rq l G mL_law (d + 1) 16 [some (.ref u0), some (.ref a0), some (.ref a8), none, none, none, none] [] h12 _
  refine q_iconst (v := 1) dL_law_16 (by decide) ?_
  obtain ⟨a17, h17, ea17, eh17, hq⟩ := vnw_e hq
  refine q_newa (t0 := 3) (N := 1) (a0 := (1, .inr (.inl (fun _ => 0)))) dL_law_17 rfl (fun _ z => nomatch z) arr_long (mv_tJ hG) rfl (by decide) (by decide) (by decide) ?_
  rw [← eh17, ← ea17]
  show mv_rq l G mL_law (d + 1) 19 [some (.ref u0), some (.ref a0), some (.ref a8), none, none, none, none] [.ref a17] h17 _
  refine q_astore_n dL_law_19 (Nat.le_of_ble_eq_true rfl) rfl ?_
  show mv_rq l G mL_law (d + 1) 20 [some (.ref u0), some (.ref a0), some (.ref a8), some (.ref a17), none, none, none] [] h17 _
  refine q_iconst (v := 0) dL_law_20 (by decide) ?_
  refine q_istore dL_law_21 (Nat.le_of_ble_eq_true rfl) rfl ?_
  show mv_rq l G mL_law (d + 1) 23 [some (.ref u0), some (.ref a0), some (.ref a8), some (.ref a17), some (.int 0), none, none] [] h17 _
  exact mv_weak (A := [some (.ref u0), some (.ref a0), some (.ref a8), some (.ref a17), some (.int 0), none, none]) (by repeat' constructor) hq
def w_L_law_23 (l : Launch) (G : mv_G) (d : Nat) (u0 : Nat) (u1 : Nat) (u2 : Nat) (u3 : Nat) (u4 : Int32) (h : mv_H) (Q : mv_O → mv_H → Prop) : Prop :=
  vln G h u0 1 fun x26 =>
  vif ((x26 - 3) < u4) (
    Q (.inl (some (.int 1))) h) (
    vai G h u0 1 u4 fun x35 =>
    vif ((x35 &&& 15) = 0) (
      vai G h u0 1 (u4 + 1) fun x106 =>
      vob h u1 14 (
      mv_rq l G mX12_type d 0 (mv_in [.ref u1, .int (x106.toUInt32 % 65536).toInt32] 2) [] h (vI (fun E h1 => Q (.inr E) h1) (fun x108 h108 =>
      vai G h108 u0 1 (u4 + 1) fun x117 =>
      vob h108 u2 15 (
      mv_rq l G mX13_type d 0 (mv_in [.ref u2, .int (x117.toUInt32 % 65536).toInt32] 2) [] h108 (vI (fun E h1 => Q (.inr E) h1) (fun x119 h119 =>
      vif (x108 = x119) (
        mv_rq l G mL_law (d + 1) 23 [some (.ref u0), some (.ref u1), some (.ref u2), some (.ref u3), some (.int (u4 + 3)), none, none] [] h119 Q) (
        Q (.inl (some (.int 0))) h119)))))))) (
    vif ((x35 &&& 15) = 1) (
      mv_rq l G mL_document d 0 (mv_in [.ref u1, .ref u3] 3) [] h (vI (fun E h1 => Q (.inr E) h1) (fun x129 h129 =>
      vob h129 u2 15 (
      mv_rq l G mX13_document d 0 (mv_in [.ref u2] 3) [] h129 (vI (fun E h1 => Q (.inr E) h1) (fun x135 h135 =>
      vob h135 u2 15 (
      mv_rq l G mX13_thrown d 0 (mv_in [.ref u2] 1) [] h135 (vI (fun E h1 => Q (.inr E) h1) (fun x141 h141 =>
      vif (x141 = x129) (
        vif (x129 = 0) (
          vla G h141 u3 0 fun x158 =>
          vif ((lg_cmp x158 x135.toInt64) = 0) (
            mv_rq l G mL_law (d + 1) 23 [some (.ref u0), some (.ref u1), some (.ref u2), some (.ref u3), some (.int (u4 + 3)), none, none] [] h141 Q) (
            Q (.inl (some (.int 0))) h141)) (
          mv_rq l G mL_law (d + 1) 23 [some (.ref u0), some (.ref u1), some (.ref u2), some (.ref u3), some (.int (u4 + 3)), none, none] [] h141 Q)) (
        Q (.inl (some (.int 0))) h141)))))))))) (
    vif ((x35 &&& 15) = 2) (
      mv_rq l G mL_query d 0 (mv_in [.ref u1, .ref u3] 3) [] h (vI (fun E h1 => Q (.inr E) h1) (fun x173 h173 =>
      vob h173 u2 15 (
      mv_rq l G mX13_query d 0 (mv_in [.ref u2] 4) [] h173 (vI (fun E h1 => Q (.inr E) h1) (fun x179 h179 =>
      vob h179 u2 15 (
      mv_rq l G mX13_thrown d 0 (mv_in [.ref u2] 1) [] h179 (vI (fun E h1 => Q (.inr E) h1) (fun x185 h185 =>
      vif (x185 = x173) (
        vif (x173 = 0) (
          vla G h185 u3 0 fun x202 =>
          vif ((lg_cmp x202 x179.toInt64) = 0) (
            mv_rq l G mL_law (d + 1) 23 [some (.ref u0), some (.ref u1), some (.ref u2), some (.ref u3), some (.int (u4 + 3)), none, none] [] h185 Q) (
            Q (.inl (some (.int 0))) h185)) (
          mv_rq l G mL_law (d + 1) 23 [some (.ref u0), some (.ref u1), some (.ref u2), some (.ref u3), some (.int (u4 + 3)), none, none] [] h185 Q)) (
        Q (.inl (some (.int 0))) h185)))))))))) (
    vif ((x35 &&& 15) = 3) (
      vob h u1 14 (
      mv_rq l G mX12_place d 0 (mv_in [.ref u1] 1) [] h (vI (fun E h1 => Q (.inr E) h1) (fun x216 h216 =>
      vob h216 u2 15 (
      mv_rq l G mX13_place d 0 (mv_in [.ref u2] 1) [] h216 (vI (fun E h1 => Q (.inr E) h1) (fun x220 h220 =>
      vif (x216 = x220) (
        mv_rq l G mL_law (d + 1) 23 [some (.ref u0), some (.ref u1), some (.ref u2), some (.ref u3), some (.int (u4 + 3)), none, none] [] h220 Q) (
        Q (.inl (some (.int 0))) h220)))))))) (
    vif ((x35 &&& 15) = 4) (
      mv_rq l G mL_find d 0 (mv_in [.ref u1, .ref u3] 3) [] h (vI (fun E h1 => Q (.inr E) h1) (fun x230 h230 =>
      vob h230 u2 15 (
      mv_rq l G mX13_find d 0 (mv_in [.ref u2] 2) [] h230 (vI (fun E h1 => Q (.inr E) h1) (fun x236 h236 =>
      vob h236 u2 15 (
      mv_rq l G mX13_thrown d 0 (mv_in [.ref u2] 1) [] h236 (vI (fun E h1 => Q (.inr E) h1) (fun x242 h242 =>
      vif (x242 = x230) (
        vif (x230 = 0) (
          vla G h242 u3 0 fun x259 =>
          vif ((lg_cmp x259 x236.toInt64) = 0) (
            mv_rq l G mL_law (d + 1) 23 [some (.ref u0), some (.ref u1), some (.ref u2), some (.ref u3), some (.int (u4 + 3)), none, none] [] h242 Q) (
            Q (.inl (some (.int 0))) h242)) (
          mv_rq l G mL_law (d + 1) 23 [some (.ref u0), some (.ref u1), some (.ref u2), some (.ref u3), some (.int (u4 + 3)), none, none] [] h242 Q)) (
        Q (.inl (some (.int 0))) h242)))))))))) (
    vif ((x35 &&& 15) = 5) (
      vai G h u0 1 (u4 + 1) fun x278 =>
      vob h u1 14 (
      mv_rq l G mX12_found d 0 (mv_in [.ref u1, .int x278] 2) [] h (vI (fun E h1 => Q (.inr E) h1) (fun x279 h279 =>
      vai G h279 u0 1 (u4 + 1) fun x288 =>
      vob h279 u2 15 (
      mv_rq l G mX13_found d 0 (mv_in [.ref u2, .int x288] 2) [] h279 (vI (fun E h1 => Q (.inr E) h1) (fun x289 h289 =>
      vif (x279 = x289) (
        mv_rq l G mL_law (d + 1) 23 [some (.ref u0), some (.ref u1), some (.ref u2), some (.ref u3), some (.int (u4 + 3)), none, none] [] h289 Q) (
        Q (.inl (some (.int 0))) h289)))))))) (
    vif ((x35 &&& 15) = 6) (
      vai G h u0 1 (u4 + 1) fun x303 =>
      vob h u1 14 (
      mv_rq l G mX12_kind d 0 (mv_in [.ref u1, .int x303] 2) [] h (vI (fun E h1 => Q (.inr E) h1) (fun x304 h304 =>
      vai G h304 u0 1 (u4 + 1) fun x313 =>
      vob h304 u2 15 (
      mv_rq l G mX13_kind d 0 (mv_in [.ref u2, .int x313] 2) [] h304 (vI (fun E h1 => Q (.inr E) h1) (fun x314 h314 =>
      vif (x304 = x314) (
        mv_rq l G mL_law (d + 1) 23 [some (.ref u0), some (.ref u1), some (.ref u2), some (.ref u3), some (.int (u4 + 3)), none, none] [] h314 Q) (
        Q (.inl (some (.int 0))) h314)))))))) (
    vif ((x35 &&& 15) = 7) (
      vai G h u0 1 (u4 + 1) fun x328 =>
      vob h u1 14 (
      mv_rq l G mX12_size d 0 (mv_in [.ref u1, .int x328] 2) [] h (vI (fun E h1 => Q (.inr E) h1) (fun x329 h329 =>
      vai G h329 u0 1 (u4 + 1) fun x338 =>
      vob h329 u2 15 (
      mv_rq l G mX13_size d 0 (mv_in [.ref u2, .int x338] 2) [] h329 (vI (fun E h1 => Q (.inr E) h1) (fun x339 h339 =>
      vif (x329 = x339) (
        mv_rq l G mL_law (d + 1) 23 [some (.ref u0), some (.ref u1), some (.ref u2), some (.ref u3), some (.int (u4 + 3)), none, none] [] h339 Q) (
        Q (.inl (some (.int 0))) h339)))))))) (
    vif ((x35 &&& 15) = 8) (
      vai G h u0 1 (u4 + 1) fun x353 =>
      vai G h u0 1 (u4 + 2) fun x359 =>
      vob h u1 14 (
      mv_rq l G mX12_character d 0 (mv_in [.ref u1, .int x353, .int x359] 3) [] h (vI (fun E h1 => Q (.inr E) h1) (fun x360 h360 =>
      vai G h360 u0 1 (u4 + 1) fun x369 =>
      vai G h360 u0 1 (u4 + 2) fun x375 =>
      vob h360 u2 15 (
      mv_rq l G mX13_character d 0 (mv_in [.ref u2, .int x369, .int x375] 3) [] h360 (vI (fun E h1 => Q (.inr E) h1) (fun x376 h376 =>
      vif (x360 = x376) (
        mv_rq l G mL_law (d + 1) 23 [some (.ref u0), some (.ref u1), some (.ref u2), some (.ref u3), some (.int (u4 + 3)), none, none] [] h376 Q) (
        Q (.inl (some (.int 0))) h376)))))))) (
    vif ((x35 &&& 15) = 9) (
      vai G h u0 1 (u4 + 1) fun x390 =>
      vob h u1 14 (
      mv_rq l G mX12_outer d 0 (mv_in [.ref u1, .int x390] 2) [] h (vI (fun E h1 => Q (.inr E) h1) (fun x391 h391 =>
      vai G h391 u0 1 (u4 + 1) fun x400 =>
      vob h391 u2 15 (
      mv_rq l G mX13_outer d 0 (mv_in [.ref u2, .int x400] 2) [] h391 (vI (fun E h1 => Q (.inr E) h1) (fun x401 h401 =>
      vif (x391 = x401) (
        mv_rq l G mL_law (d + 1) 23 [some (.ref u0), some (.ref u1), some (.ref u2), some (.ref u3), some (.int (u4 + 3)), none, none] [] h401 Q) (
        Q (.inl (some (.int 0))) h401)))))))) (
    vif ((x35 &&& 15) = 10) (
      vai G h u0 1 (u4 + 1) fun x415 =>
      vai G h u0 1 (u4 + 2) fun x421 =>
      vob h u1 14 (
      mv_rq l G mX12_path d 0 (mv_in [.ref u1, .int x415, .int x421] 3) [] h (vI (fun E h1 => Q (.inr E) h1) (fun x422 h422 =>
      vai G h422 u0 1 (u4 + 1) fun x431 =>
      vai G h422 u0 1 (u4 + 2) fun x437 =>
      vob h422 u2 15 (
      mv_rq l G mX13_path d 0 (mv_in [.ref u2, .int x431, .int x437] 4) [] h422 (vI (fun E h1 => Q (.inr E) h1) (fun x438 h438 =>
      vif (x422 = x438) (
        mv_rq l G mL_law (d + 1) 23 [some (.ref u0), some (.ref u1), some (.ref u2), some (.ref u3), some (.int (u4 + 3)), none, none] [] h438 Q) (
        Q (.inl (some (.int 0))) h438)))))))) (
    vif ((x35 &&& 15) = 11) (
      vai G h u0 1 (u4 + 1) fun x452 =>
      vai G h u0 1 (u4 + 2) fun x458 =>
      vob h u1 14 (
      mv_rq l G mX12_text d 0 (mv_in [.ref u1, .int x452, .int x458] 3) [] h (vI (fun E h1 => Q (.inr E) h1) (fun x459 h459 =>
      vai G h459 u0 1 (u4 + 1) fun x468 =>
      vai G h459 u0 1 (u4 + 2) fun x474 =>
      vob h459 u2 15 (
      mv_rq l G mX13_text d 0 (mv_in [.ref u2, .int x468, .int x474] 6) [] h459 (vI (fun E h1 => Q (.inr E) h1) (fun x475 h475 =>
      vif (x459 = x475) (
        mv_rq l G mL_law (d + 1) 23 [some (.ref u0), some (.ref u1), some (.ref u2), some (.ref u3), some (.int (u4 + 3)), none, none] [] h475 Q) (
        Q (.inl (some (.int 0))) h475)))))))) (
      mv_rq l G mL_law (d + 1) 23 [some (.ref u0), some (.ref u1), some (.ref u2), some (.ref u3), some (.int (u4 + 3)), none, none] [] h Q)))))))))))))
theorem v_L_law_23 {l : Launch} {G : mv_G} {d : Nat} {u0 : Nat} {u1 : Nat} {u2 : Nat} {u3 : Nat} {u4 : Int32} {h : mv_H} {Q : mv_O → mv_H → Prop} (hG : mv_ok G) (hq : w_L_law_23 l G d u0 u1 u2 u3 u4 h Q) : mv_rq l G mL_law (d + 1) 23 [some (.ref u0), some (.ref u1), some (.ref u2), some (.ref u3), some (.int u4), none, none] [] h Q := by
  unfold w_L_law_23 at hq
  refine q_iload dL_law_23 rfl ?_
  refine q_aload_n dL_law_25 rfl ?_
  obtain ⟨y26, x26, g26, e26, hq⟩ := vln_e hq
  refine q_alen (t0 := 1) dL_law_26 (mv_tI hG) g26 ?_
  rw [← e26]
  show mv_rq l G mL_law (d + 1) 27 [some (.ref u0), some (.ref u1), some (.ref u2), some (.ref u3), some (.int u4), none, none] [.int x26, .int u4] h _
  refine q_iconst (v := 3) dL_law_27 (by decide) ?_
  refine q_isub dL_law_28 ?_
  refine q_icmp_gt (tgt := 489) dL_law_29 (by decide) (fun c29 => ?_) (fun c29 => ?_)
  ·
    have hq := vif_t hq c29
    refine q_iconst (v := 1) dL_law_489 (by decide) ?_
    exact q_iret (ty := .boolean) dL_law_490 rfl rfl hq
  ·
    have hq := vif_f hq c29
    refine q_aload_n dL_law_32 rfl ?_
    refine q_iload dL_law_33 rfl ?_
    obtain ⟨n35, f35, x35, g35, i35, e35, hq⟩ := vai_e hq
    refine q_iald (t0 := 1) dL_law_35 (mv_tI hG) g35 i35 ?_
    rw [← e35]
    show mv_rq l G mL_law (d + 1) 36 [some (.ref u0), some (.ref u1), some (.ref u2), some (.ref u3), some (.int u4), none, none] [.int x35] h _
    refine q_bipush (v := 15) dL_law_36 (by decide) ?_
    refine q_iand dL_law_38 ?_
    by_cases c39_0 : (x35 &&& 15) = 0
    ·
      have hq := vif_t hq c39_0
      have t39 := md_ti (i := 0) (by decide) c39_0
      refine q_tableIn (off := 61) (tgt := 100) dL_law_39 (by rw [t39]; decide) (by rw [t39]; decide) (by rw [t39]; rfl) (by decide) ?_
      refine q_aload_n dL_law_100 rfl ?_
      refine q_aload_n dL_law_101 rfl ?_
      refine q_iload dL_law_102 rfl ?_
      refine q_iconst (v := 1) dL_law_104 (by decide) ?_
      refine q_iadd dL_law_105 ?_
      obtain ⟨n106, f106, x106, g106, i106, e106, hq⟩ := vai_e hq
      refine q_iald (t0 := 1) dL_law_106 (mv_tI hG) g106 i106 ?_
      rw [← e106]
      show mv_rq l G mL_law (d + 1) 107 [some (.ref u0), some (.ref u1), some (.ref u2), some (.ref u3), some (.int u4), none, none] [.int x106, .ref u1] h _
      refine q_i2c dL_law_107 ?_
      obtain ⟨⟨fs108, f108⟩, hq⟩ := vob_e hq
      refine q_cV (Y := mX12_type) (As := [.int (x106.toUInt32 % 65536).toInt32]) (st := []) (b := u1) (ci := 14) vc_X12_type dL_law_108 ml_RL_29 rfl f108 rfl (Nat.le_of_ble_eq_true rfl) rfl (Nat.le_of_ble_eq_true rfl) hq (fun v h1 hq1 => ?_) (fun E h1 hq1 => ?_)
      rotate_left
      ·
        rcases hq1 with hq1 | ⟨E1, e1, hq1⟩
        · obtain ⟨_, z, _⟩ := hq1; exact nomatch z
        · obtain rfl := Sum.inr.inj e1; exact q_xout (fun z hz => nomatch hz) hq1
      rcases hq1 with hq1 | ⟨E1, e1, hq1⟩
      rotate_left
      · exact nomatch e1
      obtain ⟨x108, hv, hq⟩ := hq1
      obtain rfl := Sum.inl.inj hv
      clear hv
      obtain ⟨h108, eh108⟩ : ∃ z, z = h1 := ⟨_, rfl⟩
      rw [← eh108] at hq ⊢
      clear eh108
      show mv_rq l G mL_law (d + 1) 111 [some (.ref u0), some (.ref u1), some (.ref u2), some (.ref u3), some (.int u4), none, none] [.int x108] h108 _
      refine q_aload_n dL_law_111 rfl ?_
      refine q_aload_n dL_law_112 rfl ?_
      refine q_iload dL_law_113 rfl ?_
      refine q_iconst (v := 1) dL_law_115 (by decide) ?_
      refine q_iadd dL_law_116 ?_
      obtain ⟨n117, f117, x117, g117, i117, e117, hq⟩ := vai_e hq
      refine q_iald (t0 := 1) dL_law_117 (mv_tI hG) g117 i117 ?_
      rw [← e117]
      show mv_rq l G mL_law (d + 1) 118 [some (.ref u0), some (.ref u1), some (.ref u2), some (.ref u3), some (.int u4), none, none] [.int x117, .ref u2, .int x108] h108 _
      refine q_i2c dL_law_118 ?_
      obtain ⟨⟨fs119, f119⟩, hq⟩ := vob_e hq
      refine q_cV (Y := mX13_type) (As := [.int (x117.toUInt32 % 65536).toInt32]) (st := [.int x108]) (b := u2) (ci := 15) vc_X13_type dL_law_119 ml_RL_33 rfl f119 rfl (Nat.le_of_ble_eq_true rfl) rfl (Nat.le_of_ble_eq_true rfl) hq (fun v h1 hq1 => ?_) (fun E h1 hq1 => ?_)
      rotate_left
      ·
        rcases hq1 with hq1 | ⟨E1, e1, hq1⟩
        · obtain ⟨_, z, _⟩ := hq1; exact nomatch z
        · obtain rfl := Sum.inr.inj e1; exact q_xout (fun z hz => nomatch hz) hq1
      rcases hq1 with hq1 | ⟨E1, e1, hq1⟩
      rotate_left
      · exact nomatch e1
      obtain ⟨x119, hv, hq⟩ := hq1
      obtain rfl := Sum.inl.inj hv
      clear hv
      obtain ⟨h119, eh119⟩ : ∃ z, z = h1 := ⟨_, rfl⟩
      rw [← eh119] at hq ⊢
      clear eh119
      show mv_rq l G mL_law (d + 1) 122 [some (.ref u0), some (.ref u1), some (.ref u2), some (.ref u3), some (.int u4), none, none] [.int x119, .int x108] h119 _
      refine q_icmp_eq (tgt := 483) dL_law_122 (by decide) (fun c122 => ?_) (fun c122 => ?_)
      ·
        have hq := vif_t hq c122
        refine q_iinc dL_law_483 rfl rfl ?_
        show mv_rq l G mL_law (d + 1) 486 [some (.ref u0), some (.ref u1), some (.ref u2), some (.ref u3), some (.int (u4 + 3)), none, none] [] h119 _
        refine q_goto (tgt := 23) dL_law_486 (by decide) ?_
        exact mv_weak (A := [some (.ref u0), some (.ref u1), some (.ref u2), some (.ref u3), some (.int (u4 + 3)), none, none]) (by repeat' constructor) hq
      ·
        have hq := vif_f hq c122
        refine q_iconst (v := 0) dL_law_125 (by decide) ?_
        exact q_iret (ty := .boolean) dL_law_126 rfl rfl hq
    ·
      have hq := vif_f hq c39_0
      by_cases c39_1 : (x35 &&& 15) = 1
      ·
        have hq := vif_t hq c39_1
        have t39 := md_ti (i := 1) (by decide) c39_1
        refine q_tableIn (off := 88) (tgt := 127) dL_law_39 (by rw [t39]; decide) (by rw [t39]; decide) (by rw [t39]; rfl) (by decide) ?_
        refine q_aload_n dL_law_127 rfl ?_
        refine q_aload_n dL_law_128 rfl ?_
        refine q_cS (Y := mL_document) (As := [.ref u1, .ref u3]) (st := []) sc_L_document dL_law_129 ml_RL_34 rfl (Nat.le_of_ble_eq_true rfl) rfl (Nat.le_of_ble_eq_true rfl) hq (fun v h1 hq1 => ?_) (fun E h1 hq1 => ?_)
        rotate_left
        ·
          rcases hq1 with hq1 | ⟨E1, e1, hq1⟩
          · obtain ⟨_, z, _⟩ := hq1; exact nomatch z
          · obtain rfl := Sum.inr.inj e1; exact q_xout (fun z hz => nomatch hz) hq1
        rcases hq1 with hq1 | ⟨E1, e1, hq1⟩
        rotate_left
        · exact nomatch e1
        obtain ⟨x129, hv, hq⟩ := hq1
        obtain rfl := Sum.inl.inj hv
        clear hv
        obtain ⟨h129, eh129⟩ : ∃ z, z = h1 := ⟨_, rfl⟩
        rw [← eh129] at hq ⊢
        clear eh129
        show mv_rq l G mL_law (d + 1) 132 [some (.ref u0), some (.ref u1), some (.ref u2), some (.ref u3), some (.int u4), none, none] [.int x129] h129 _
        refine q_istore dL_law_132 (Nat.le_of_ble_eq_true rfl) rfl ?_
        show mv_rq l G mL_law (d + 1) 134 [some (.ref u0), some (.ref u1), some (.ref u2), some (.ref u3), some (.int u4), some (.int x129), none] [] h129 _
        refine q_aload_n dL_law_134 rfl ?_
        obtain ⟨⟨fs135, f135⟩, hq⟩ := vob_e hq
        refine q_cV (Y := mX13_document) (As := []) (st := []) (b := u2) (ci := 15) vc_X13_document dL_law_135 ml_RL_39 rfl f135 rfl (Nat.le_of_ble_eq_true rfl) rfl (Nat.le_of_ble_eq_true rfl) hq (fun v h1 hq1 => ?_) (fun E h1 hq1 => ?_)
        rotate_left
        ·
          rcases hq1 with hq1 | ⟨E1, e1, hq1⟩
          · obtain ⟨_, z, _⟩ := hq1; exact nomatch z
          · obtain rfl := Sum.inr.inj e1; exact q_xout (fun z hz => nomatch hz) hq1
        rcases hq1 with hq1 | ⟨E1, e1, hq1⟩
        rotate_left
        · exact nomatch e1
        obtain ⟨x135, hv, hq⟩ := hq1
        obtain rfl := Sum.inl.inj hv
        clear hv
        obtain ⟨h135, eh135⟩ : ∃ z, z = h1 := ⟨_, rfl⟩
        rw [← eh135] at hq ⊢
        clear eh135
        show mv_rq l G mL_law (d + 1) 138 [some (.ref u0), some (.ref u1), some (.ref u2), some (.ref u3), some (.int u4), some (.int x129), none] [.int x135] h135 _
        refine q_istore dL_law_138 (Nat.le_of_ble_eq_true rfl) rfl ?_
        show mv_rq l G mL_law (d + 1) 140 [some (.ref u0), some (.ref u1), some (.ref u2), some (.ref u3), some (.int u4), some (.int x129), some (.int x135)] [] h135 _
        refine q_aload_n dL_law_140 rfl ?_
        obtain ⟨⟨fs141, f141⟩, hq⟩ := vob_e hq
        refine q_cV (Y := mX13_thrown) (As := []) (st := []) (b := u2) (ci := 15) vc_X13_thrown dL_law_141 ml_RL_40 rfl f141 rfl (Nat.le_of_ble_eq_true rfl) rfl (Nat.le_of_ble_eq_true rfl) hq (fun v h1 hq1 => ?_) (fun E h1 hq1 => ?_)
        rotate_left
        ·
          rcases hq1 with hq1 | ⟨E1, e1, hq1⟩
          · obtain ⟨_, z, _⟩ := hq1; exact nomatch z
          · obtain rfl := Sum.inr.inj e1; exact q_xout (fun z hz => nomatch hz) hq1
        rcases hq1 with hq1 | ⟨E1, e1, hq1⟩
        rotate_left
        · exact nomatch e1
        obtain ⟨x141, hv, hq⟩ := hq1
        obtain rfl := Sum.inl.inj hv
        clear hv
        obtain ⟨h141, eh141⟩ : ∃ z, z = h1 := ⟨_, rfl⟩
        rw [← eh141] at hq ⊢
        clear eh141
        show mv_rq l G mL_law (d + 1) 144 [some (.ref u0), some (.ref u1), some (.ref u2), some (.ref u3), some (.int u4), some (.int x129), some (.int x135)] [.int x141] h141 _
        refine q_iload dL_law_144 rfl ?_
        refine q_icmp_eq (tgt := 151) dL_law_146 (by decide) (fun c146 => ?_) (fun c146 => ?_)
        ·
          have hq := vif_t hq c146
          refine q_iload dL_law_151 rfl ?_
          refine q_if_ne (tgt := 168) dL_law_153 (by decide) (fun c153 => ?_) (fun c153 => ?_)
          ·
            have hq := vif_f hq c153
            refine q_goto (tgt := 483) dL_law_168 (by decide) ?_
            refine q_iinc dL_law_483 rfl rfl ?_
            show mv_rq l G mL_law (d + 1) 486 [some (.ref u0), some (.ref u1), some (.ref u2), some (.ref u3), some (.int (u4 + 3)), some (.int x129), some (.int x135)] [] h141 _
            refine q_goto (tgt := 23) dL_law_486 (by decide) ?_
            exact mv_weak (A := [some (.ref u0), some (.ref u1), some (.ref u2), some (.ref u3), some (.int (u4 + 3)), none, none]) (by repeat' constructor) hq
          ·
            have hq := vif_t hq c153
            refine q_aload_n dL_law_156 rfl ?_
            refine q_iconst (v := 0) dL_law_157 (by decide) ?_
            obtain ⟨n158, f158, x158, g158, i158, e158, hq⟩ := vla_e hq
            refine q_lald (t0 := 3) dL_law_158 (mv_tJ hG) g158 i158 ?_
            rw [← e158]
            show mv_rq l G mL_law (d + 1) 159 [some (.ref u0), some (.ref u1), some (.ref u2), some (.ref u3), some (.int u4), some (.int x129), some (.int x135)] [.long x158] h141 _
            refine q_iload dL_law_159 rfl ?_
            refine q_i2l dL_law_161 ?_
            refine q_lcmp dL_law_162 ?_
            refine q_if_eq (tgt := 168) dL_law_163 (by decide) (fun c163 => ?_) (fun c163 => ?_)
            ·
              have hq := vif_t hq c163
              refine q_goto (tgt := 483) dL_law_168 (by decide) ?_
              refine q_iinc dL_law_483 rfl rfl ?_
              show mv_rq l G mL_law (d + 1) 486 [some (.ref u0), some (.ref u1), some (.ref u2), some (.ref u3), some (.int (u4 + 3)), some (.int x129), some (.int x135)] [] h141 _
              refine q_goto (tgt := 23) dL_law_486 (by decide) ?_
              exact mv_weak (A := [some (.ref u0), some (.ref u1), some (.ref u2), some (.ref u3), some (.int (u4 + 3)), none, none]) (by repeat' constructor) hq
            ·
              have hq := vif_f hq c163
              refine q_iconst (v := 0) dL_law_166 (by decide) ?_
              exact q_iret (ty := .boolean) dL_law_167 rfl rfl hq
        ·
          have hq := vif_f hq c146
          refine q_iconst (v := 0) dL_law_149 (by decide) ?_
          exact q_iret (ty := .boolean) dL_law_150 rfl rfl hq
      ·
        have hq := vif_f hq c39_1
        by_cases c39_2 : (x35 &&& 15) = 2
        ·
          have hq := vif_t hq c39_2
          have t39 := md_ti (i := 2) (by decide) c39_2
          refine q_tableIn (off := 132) (tgt := 171) dL_law_39 (by rw [t39]; decide) (by rw [t39]; decide) (by rw [t39]; rfl) (by decide) ?_
          refine q_aload_n dL_law_171 rfl ?_
          refine q_aload_n dL_law_172 rfl ?_
          refine q_cS (Y := mL_query) (As := [.ref u1, .ref u3]) (st := []) sc_L_query dL_law_173 ml_RL_43 rfl (Nat.le_of_ble_eq_true rfl) rfl (Nat.le_of_ble_eq_true rfl) hq (fun v h1 hq1 => ?_) (fun E h1 hq1 => ?_)
          rotate_left
          ·
            rcases hq1 with hq1 | ⟨E1, e1, hq1⟩
            · obtain ⟨_, z, _⟩ := hq1; exact nomatch z
            · obtain rfl := Sum.inr.inj e1; exact q_xout (fun z hz => nomatch hz) hq1
          rcases hq1 with hq1 | ⟨E1, e1, hq1⟩
          rotate_left
          · exact nomatch e1
          obtain ⟨x173, hv, hq⟩ := hq1
          obtain rfl := Sum.inl.inj hv
          clear hv
          obtain ⟨h173, eh173⟩ : ∃ z, z = h1 := ⟨_, rfl⟩
          rw [← eh173] at hq ⊢
          clear eh173
          show mv_rq l G mL_law (d + 1) 176 [some (.ref u0), some (.ref u1), some (.ref u2), some (.ref u3), some (.int u4), none, none] [.int x173] h173 _
          refine q_istore dL_law_176 (Nat.le_of_ble_eq_true rfl) rfl ?_
          show mv_rq l G mL_law (d + 1) 178 [some (.ref u0), some (.ref u1), some (.ref u2), some (.ref u3), some (.int u4), some (.int x173), none] [] h173 _
          refine q_aload_n dL_law_178 rfl ?_
          obtain ⟨⟨fs179, f179⟩, hq⟩ := vob_e hq
          refine q_cV (Y := mX13_query) (As := []) (st := []) (b := u2) (ci := 15) vc_X13_query dL_law_179 ml_RL_45 rfl f179 rfl (Nat.le_of_ble_eq_true rfl) rfl (Nat.le_of_ble_eq_true rfl) hq (fun v h1 hq1 => ?_) (fun E h1 hq1 => ?_)
          rotate_left
          ·
            rcases hq1 with hq1 | ⟨E1, e1, hq1⟩
            · obtain ⟨_, z, _⟩ := hq1; exact nomatch z
            · obtain rfl := Sum.inr.inj e1; exact q_xout (fun z hz => nomatch hz) hq1
          rcases hq1 with hq1 | ⟨E1, e1, hq1⟩
          rotate_left
          · exact nomatch e1
          obtain ⟨x179, hv, hq⟩ := hq1
          obtain rfl := Sum.inl.inj hv
          clear hv
          obtain ⟨h179, eh179⟩ : ∃ z, z = h1 := ⟨_, rfl⟩
          rw [← eh179] at hq ⊢
          clear eh179
          show mv_rq l G mL_law (d + 1) 182 [some (.ref u0), some (.ref u1), some (.ref u2), some (.ref u3), some (.int u4), some (.int x173), none] [.int x179] h179 _
          refine q_istore dL_law_182 (Nat.le_of_ble_eq_true rfl) rfl ?_
          show mv_rq l G mL_law (d + 1) 184 [some (.ref u0), some (.ref u1), some (.ref u2), some (.ref u3), some (.int u4), some (.int x173), some (.int x179)] [] h179 _
          refine q_aload_n dL_law_184 rfl ?_
          obtain ⟨⟨fs185, f185⟩, hq⟩ := vob_e hq
          refine q_cV (Y := mX13_thrown) (As := []) (st := []) (b := u2) (ci := 15) vc_X13_thrown dL_law_185 ml_RL_40 rfl f185 rfl (Nat.le_of_ble_eq_true rfl) rfl (Nat.le_of_ble_eq_true rfl) hq (fun v h1 hq1 => ?_) (fun E h1 hq1 => ?_)
          rotate_left
          ·
            rcases hq1 with hq1 | ⟨E1, e1, hq1⟩
            · obtain ⟨_, z, _⟩ := hq1; exact nomatch z
            · obtain rfl := Sum.inr.inj e1; exact q_xout (fun z hz => nomatch hz) hq1
          rcases hq1 with hq1 | ⟨E1, e1, hq1⟩
          rotate_left
          · exact nomatch e1
          obtain ⟨x185, hv, hq⟩ := hq1
          obtain rfl := Sum.inl.inj hv
          clear hv
          obtain ⟨h185, eh185⟩ : ∃ z, z = h1 := ⟨_, rfl⟩
          rw [← eh185] at hq ⊢
          clear eh185
          show mv_rq l G mL_law (d + 1) 188 [some (.ref u0), some (.ref u1), some (.ref u2), some (.ref u3), some (.int u4), some (.int x173), some (.int x179)] [.int x185] h185 _
          refine q_iload dL_law_188 rfl ?_
          refine q_icmp_eq (tgt := 195) dL_law_190 (by decide) (fun c190 => ?_) (fun c190 => ?_)
          ·
            have hq := vif_t hq c190
            refine q_iload dL_law_195 rfl ?_
            refine q_if_ne (tgt := 212) dL_law_197 (by decide) (fun c197 => ?_) (fun c197 => ?_)
            ·
              have hq := vif_f hq c197
              refine q_goto (tgt := 483) dL_law_212 (by decide) ?_
              refine q_iinc dL_law_483 rfl rfl ?_
              show mv_rq l G mL_law (d + 1) 486 [some (.ref u0), some (.ref u1), some (.ref u2), some (.ref u3), some (.int (u4 + 3)), some (.int x173), some (.int x179)] [] h185 _
              refine q_goto (tgt := 23) dL_law_486 (by decide) ?_
              exact mv_weak (A := [some (.ref u0), some (.ref u1), some (.ref u2), some (.ref u3), some (.int (u4 + 3)), none, none]) (by repeat' constructor) hq
            ·
              have hq := vif_t hq c197
              refine q_aload_n dL_law_200 rfl ?_
              refine q_iconst (v := 0) dL_law_201 (by decide) ?_
              obtain ⟨n202, f202, x202, g202, i202, e202, hq⟩ := vla_e hq
              refine q_lald (t0 := 3) dL_law_202 (mv_tJ hG) g202 i202 ?_
              rw [← e202]
              show mv_rq l G mL_law (d + 1) 203 [some (.ref u0), some (.ref u1), some (.ref u2), some (.ref u3), some (.int u4), some (.int x173), some (.int x179)] [.long x202] h185 _
              refine q_iload dL_law_203 rfl ?_
              refine q_i2l dL_law_205 ?_
              refine q_lcmp dL_law_206 ?_
              refine q_if_eq (tgt := 212) dL_law_207 (by decide) (fun c207 => ?_) (fun c207 => ?_)
              ·
                have hq := vif_t hq c207
                refine q_goto (tgt := 483) dL_law_212 (by decide) ?_
                refine q_iinc dL_law_483 rfl rfl ?_
                show mv_rq l G mL_law (d + 1) 486 [some (.ref u0), some (.ref u1), some (.ref u2), some (.ref u3), some (.int (u4 + 3)), some (.int x173), some (.int x179)] [] h185 _
                refine q_goto (tgt := 23) dL_law_486 (by decide) ?_
                exact mv_weak (A := [some (.ref u0), some (.ref u1), some (.ref u2), some (.ref u3), some (.int (u4 + 3)), none, none]) (by repeat' constructor) hq
              ·
                have hq := vif_f hq c207
                refine q_iconst (v := 0) dL_law_210 (by decide) ?_
                exact q_iret (ty := .boolean) dL_law_211 rfl rfl hq
          ·
            have hq := vif_f hq c190
            refine q_iconst (v := 0) dL_law_193 (by decide) ?_
            exact q_iret (ty := .boolean) dL_law_194 rfl rfl hq
        ·
          have hq := vif_f hq c39_2
          by_cases c39_3 : (x35 &&& 15) = 3
          ·
            have hq := vif_t hq c39_3
            have t39 := md_ti (i := 3) (by decide) c39_3
            refine q_tableIn (off := 176) (tgt := 215) dL_law_39 (by rw [t39]; decide) (by rw [t39]; decide) (by rw [t39]; rfl) (by decide) ?_
            refine q_aload_n dL_law_215 rfl ?_
            obtain ⟨⟨fs216, f216⟩, hq⟩ := vob_e hq
            refine q_cV (Y := mX12_place) (As := []) (st := []) (b := u1) (ci := 14) vc_X12_place dL_law_216 ml_RL_46 rfl f216 rfl (Nat.le_of_ble_eq_true rfl) rfl (Nat.le_of_ble_eq_true rfl) hq (fun v h1 hq1 => ?_) (fun E h1 hq1 => ?_)
            rotate_left
            ·
              rcases hq1 with hq1 | ⟨E1, e1, hq1⟩
              · obtain ⟨_, z, _⟩ := hq1; exact nomatch z
              · obtain rfl := Sum.inr.inj e1; exact q_xout (fun z hz => nomatch hz) hq1
            rcases hq1 with hq1 | ⟨E1, e1, hq1⟩
            rotate_left
            · exact nomatch e1
            obtain ⟨x216, hv, hq⟩ := hq1
            obtain rfl := Sum.inl.inj hv
            clear hv
            obtain ⟨h216, eh216⟩ : ∃ z, z = h1 := ⟨_, rfl⟩
            rw [← eh216] at hq ⊢
            clear eh216
            show mv_rq l G mL_law (d + 1) 219 [some (.ref u0), some (.ref u1), some (.ref u2), some (.ref u3), some (.int u4), none, none] [.int x216] h216 _
            refine q_aload_n dL_law_219 rfl ?_
            obtain ⟨⟨fs220, f220⟩, hq⟩ := vob_e hq
            refine q_cV (Y := mX13_place) (As := []) (st := [.int x216]) (b := u2) (ci := 15) vc_X13_place dL_law_220 ml_RL_49 rfl f220 rfl (Nat.le_of_ble_eq_true rfl) rfl (Nat.le_of_ble_eq_true rfl) hq (fun v h1 hq1 => ?_) (fun E h1 hq1 => ?_)
            rotate_left
            ·
              rcases hq1 with hq1 | ⟨E1, e1, hq1⟩
              · obtain ⟨_, z, _⟩ := hq1; exact nomatch z
              · obtain rfl := Sum.inr.inj e1; exact q_xout (fun z hz => nomatch hz) hq1
            rcases hq1 with hq1 | ⟨E1, e1, hq1⟩
            rotate_left
            · exact nomatch e1
            obtain ⟨x220, hv, hq⟩ := hq1
            obtain rfl := Sum.inl.inj hv
            clear hv
            obtain ⟨h220, eh220⟩ : ∃ z, z = h1 := ⟨_, rfl⟩
            rw [← eh220] at hq ⊢
            clear eh220
            show mv_rq l G mL_law (d + 1) 223 [some (.ref u0), some (.ref u1), some (.ref u2), some (.ref u3), some (.int u4), none, none] [.int x220, .int x216] h220 _
            refine q_icmp_eq (tgt := 483) dL_law_223 (by decide) (fun c223 => ?_) (fun c223 => ?_)
            ·
              have hq := vif_t hq c223
              refine q_iinc dL_law_483 rfl rfl ?_
              show mv_rq l G mL_law (d + 1) 486 [some (.ref u0), some (.ref u1), some (.ref u2), some (.ref u3), some (.int (u4 + 3)), none, none] [] h220 _
              refine q_goto (tgt := 23) dL_law_486 (by decide) ?_
              exact mv_weak (A := [some (.ref u0), some (.ref u1), some (.ref u2), some (.ref u3), some (.int (u4 + 3)), none, none]) (by repeat' constructor) hq
            ·
              have hq := vif_f hq c223
              refine q_iconst (v := 0) dL_law_226 (by decide) ?_
              exact q_iret (ty := .boolean) dL_law_227 rfl rfl hq
          ·
            have hq := vif_f hq c39_3
            by_cases c39_4 : (x35 &&& 15) = 4
            ·
              have hq := vif_t hq c39_4
              have t39 := md_ti (i := 4) (by decide) c39_4
              refine q_tableIn (off := 189) (tgt := 228) dL_law_39 (by rw [t39]; decide) (by rw [t39]; decide) (by rw [t39]; rfl) (by decide) ?_
              refine q_aload_n dL_law_228 rfl ?_
              refine q_aload_n dL_law_229 rfl ?_
              refine q_cS (Y := mL_find) (As := [.ref u1, .ref u3]) (st := []) sc_L_find dL_law_230 ml_RL_50 rfl (Nat.le_of_ble_eq_true rfl) rfl (Nat.le_of_ble_eq_true rfl) hq (fun v h1 hq1 => ?_) (fun E h1 hq1 => ?_)
              rotate_left
              ·
                rcases hq1 with hq1 | ⟨E1, e1, hq1⟩
                · obtain ⟨_, z, _⟩ := hq1; exact nomatch z
                · obtain rfl := Sum.inr.inj e1; exact q_xout (fun z hz => nomatch hz) hq1
              rcases hq1 with hq1 | ⟨E1, e1, hq1⟩
              rotate_left
              · exact nomatch e1
              obtain ⟨x230, hv, hq⟩ := hq1
              obtain rfl := Sum.inl.inj hv
              clear hv
              obtain ⟨h230, eh230⟩ : ∃ z, z = h1 := ⟨_, rfl⟩
              rw [← eh230] at hq ⊢
              clear eh230
              show mv_rq l G mL_law (d + 1) 233 [some (.ref u0), some (.ref u1), some (.ref u2), some (.ref u3), some (.int u4), none, none] [.int x230] h230 _
              refine q_istore dL_law_233 (Nat.le_of_ble_eq_true rfl) rfl ?_
              show mv_rq l G mL_law (d + 1) 235 [some (.ref u0), some (.ref u1), some (.ref u2), some (.ref u3), some (.int u4), some (.int x230), none] [] h230 _
              refine q_aload_n dL_law_235 rfl ?_
              obtain ⟨⟨fs236, f236⟩, hq⟩ := vob_e hq
              refine q_cV (Y := mX13_find) (As := []) (st := []) (b := u2) (ci := 15) vc_X13_find dL_law_236 ml_RL_52 rfl f236 rfl (Nat.le_of_ble_eq_true rfl) rfl (Nat.le_of_ble_eq_true rfl) hq (fun v h1 hq1 => ?_) (fun E h1 hq1 => ?_)
              rotate_left
              ·
                rcases hq1 with hq1 | ⟨E1, e1, hq1⟩
                · obtain ⟨_, z, _⟩ := hq1; exact nomatch z
                · obtain rfl := Sum.inr.inj e1; exact q_xout (fun z hz => nomatch hz) hq1
              rcases hq1 with hq1 | ⟨E1, e1, hq1⟩
              rotate_left
              · exact nomatch e1
              obtain ⟨x236, hv, hq⟩ := hq1
              obtain rfl := Sum.inl.inj hv
              clear hv
              obtain ⟨h236, eh236⟩ : ∃ z, z = h1 := ⟨_, rfl⟩
              rw [← eh236] at hq ⊢
              clear eh236
              show mv_rq l G mL_law (d + 1) 239 [some (.ref u0), some (.ref u1), some (.ref u2), some (.ref u3), some (.int u4), some (.int x230), none] [.int x236] h236 _
              refine q_istore dL_law_239 (Nat.le_of_ble_eq_true rfl) rfl ?_
              show mv_rq l G mL_law (d + 1) 241 [some (.ref u0), some (.ref u1), some (.ref u2), some (.ref u3), some (.int u4), some (.int x230), some (.int x236)] [] h236 _
              refine q_aload_n dL_law_241 rfl ?_
              obtain ⟨⟨fs242, f242⟩, hq⟩ := vob_e hq
              refine q_cV (Y := mX13_thrown) (As := []) (st := []) (b := u2) (ci := 15) vc_X13_thrown dL_law_242 ml_RL_40 rfl f242 rfl (Nat.le_of_ble_eq_true rfl) rfl (Nat.le_of_ble_eq_true rfl) hq (fun v h1 hq1 => ?_) (fun E h1 hq1 => ?_)
              rotate_left
              ·
                rcases hq1 with hq1 | ⟨E1, e1, hq1⟩
                · obtain ⟨_, z, _⟩ := hq1; exact nomatch z
                · obtain rfl := Sum.inr.inj e1; exact q_xout (fun z hz => nomatch hz) hq1
              rcases hq1 with hq1 | ⟨E1, e1, hq1⟩
              rotate_left
              · exact nomatch e1
              obtain ⟨x242, hv, hq⟩ := hq1
              obtain rfl := Sum.inl.inj hv
              clear hv
              obtain ⟨h242, eh242⟩ : ∃ z, z = h1 := ⟨_, rfl⟩
              rw [← eh242] at hq ⊢
              clear eh242
              show mv_rq l G mL_law (d + 1) 245 [some (.ref u0), some (.ref u1), some (.ref u2), some (.ref u3), some (.int u4), some (.int x230), some (.int x236)] [.int x242] h242 _
              refine q_iload dL_law_245 rfl ?_
              refine q_icmp_eq (tgt := 252) dL_law_247 (by decide) (fun c247 => ?_) (fun c247 => ?_)
              ·
                have hq := vif_t hq c247
                refine q_iload dL_law_252 rfl ?_
                refine q_if_ne (tgt := 269) dL_law_254 (by decide) (fun c254 => ?_) (fun c254 => ?_)
                ·
                  have hq := vif_f hq c254
                  refine q_goto (tgt := 483) dL_law_269 (by decide) ?_
                  refine q_iinc dL_law_483 rfl rfl ?_
                  show mv_rq l G mL_law (d + 1) 486 [some (.ref u0), some (.ref u1), some (.ref u2), some (.ref u3), some (.int (u4 + 3)), some (.int x230), some (.int x236)] [] h242 _
                  refine q_goto (tgt := 23) dL_law_486 (by decide) ?_
                  exact mv_weak (A := [some (.ref u0), some (.ref u1), some (.ref u2), some (.ref u3), some (.int (u4 + 3)), none, none]) (by repeat' constructor) hq
                ·
                  have hq := vif_t hq c254
                  refine q_aload_n dL_law_257 rfl ?_
                  refine q_iconst (v := 0) dL_law_258 (by decide) ?_
                  obtain ⟨n259, f259, x259, g259, i259, e259, hq⟩ := vla_e hq
                  refine q_lald (t0 := 3) dL_law_259 (mv_tJ hG) g259 i259 ?_
                  rw [← e259]
                  show mv_rq l G mL_law (d + 1) 260 [some (.ref u0), some (.ref u1), some (.ref u2), some (.ref u3), some (.int u4), some (.int x230), some (.int x236)] [.long x259] h242 _
                  refine q_iload dL_law_260 rfl ?_
                  refine q_i2l dL_law_262 ?_
                  refine q_lcmp dL_law_263 ?_
                  refine q_if_eq (tgt := 269) dL_law_264 (by decide) (fun c264 => ?_) (fun c264 => ?_)
                  ·
                    have hq := vif_t hq c264
                    refine q_goto (tgt := 483) dL_law_269 (by decide) ?_
                    refine q_iinc dL_law_483 rfl rfl ?_
                    show mv_rq l G mL_law (d + 1) 486 [some (.ref u0), some (.ref u1), some (.ref u2), some (.ref u3), some (.int (u4 + 3)), some (.int x230), some (.int x236)] [] h242 _
                    refine q_goto (tgt := 23) dL_law_486 (by decide) ?_
                    exact mv_weak (A := [some (.ref u0), some (.ref u1), some (.ref u2), some (.ref u3), some (.int (u4 + 3)), none, none]) (by repeat' constructor) hq
                  ·
                    have hq := vif_f hq c264
                    refine q_iconst (v := 0) dL_law_267 (by decide) ?_
                    exact q_iret (ty := .boolean) dL_law_268 rfl rfl hq
              ·
                have hq := vif_f hq c247
                refine q_iconst (v := 0) dL_law_250 (by decide) ?_
                exact q_iret (ty := .boolean) dL_law_251 rfl rfl hq
            ·
              have hq := vif_f hq c39_4
              by_cases c39_5 : (x35 &&& 15) = 5
              ·
                have hq := vif_t hq c39_5
                have t39 := md_ti (i := 5) (by decide) c39_5
                refine q_tableIn (off := 233) (tgt := 272) dL_law_39 (by rw [t39]; decide) (by rw [t39]; decide) (by rw [t39]; rfl) (by decide) ?_
                refine q_aload_n dL_law_272 rfl ?_
                refine q_aload_n dL_law_273 rfl ?_
                refine q_iload dL_law_274 rfl ?_
                refine q_iconst (v := 1) dL_law_276 (by decide) ?_
                refine q_iadd dL_law_277 ?_
                obtain ⟨n278, f278, x278, g278, i278, e278, hq⟩ := vai_e hq
                refine q_iald (t0 := 1) dL_law_278 (mv_tI hG) g278 i278 ?_
                rw [← e278]
                show mv_rq l G mL_law (d + 1) 279 [some (.ref u0), some (.ref u1), some (.ref u2), some (.ref u3), some (.int u4), none, none] [.int x278, .ref u1] h _
                obtain ⟨⟨fs279, f279⟩, hq⟩ := vob_e hq
                refine q_cV (Y := mX12_found) (As := [.int x278]) (st := []) (b := u1) (ci := 14) vc_X12_found dL_law_279 ml_RL_53 rfl f279 rfl (Nat.le_of_ble_eq_true rfl) rfl (Nat.le_of_ble_eq_true rfl) hq (fun v h1 hq1 => ?_) (fun E h1 hq1 => ?_)
                rotate_left
                ·
                  rcases hq1 with hq1 | ⟨E1, e1, hq1⟩
                  · obtain ⟨_, z, _⟩ := hq1; exact nomatch z
                  · obtain rfl := Sum.inr.inj e1; exact q_xout (fun z hz => nomatch hz) hq1
                rcases hq1 with hq1 | ⟨E1, e1, hq1⟩
                rotate_left
                · exact nomatch e1
                obtain ⟨x279, hv, hq⟩ := hq1
                obtain rfl := Sum.inl.inj hv
                clear hv
                obtain ⟨h279, eh279⟩ : ∃ z, z = h1 := ⟨_, rfl⟩
                rw [← eh279] at hq ⊢
                clear eh279
                show mv_rq l G mL_law (d + 1) 282 [some (.ref u0), some (.ref u1), some (.ref u2), some (.ref u3), some (.int u4), none, none] [.int x279] h279 _
                refine q_aload_n dL_law_282 rfl ?_
                refine q_aload_n dL_law_283 rfl ?_
                refine q_iload dL_law_284 rfl ?_
                refine q_iconst (v := 1) dL_law_286 (by decide) ?_
                refine q_iadd dL_law_287 ?_
                obtain ⟨n288, f288, x288, g288, i288, e288, hq⟩ := vai_e hq
                refine q_iald (t0 := 1) dL_law_288 (mv_tI hG) g288 i288 ?_
                rw [← e288]
                show mv_rq l G mL_law (d + 1) 289 [some (.ref u0), some (.ref u1), some (.ref u2), some (.ref u3), some (.int u4), none, none] [.int x288, .ref u2, .int x279] h279 _
                obtain ⟨⟨fs289, f289⟩, hq⟩ := vob_e hq
                refine q_cV (Y := mX13_found) (As := [.int x288]) (st := [.int x279]) (b := u2) (ci := 15) vc_X13_found dL_law_289 ml_RL_57 rfl f289 rfl (Nat.le_of_ble_eq_true rfl) rfl (Nat.le_of_ble_eq_true rfl) hq (fun v h1 hq1 => ?_) (fun E h1 hq1 => ?_)
                rotate_left
                ·
                  rcases hq1 with hq1 | ⟨E1, e1, hq1⟩
                  · obtain ⟨_, z, _⟩ := hq1; exact nomatch z
                  · obtain rfl := Sum.inr.inj e1; exact q_xout (fun z hz => nomatch hz) hq1
                rcases hq1 with hq1 | ⟨E1, e1, hq1⟩
                rotate_left
                · exact nomatch e1
                obtain ⟨x289, hv, hq⟩ := hq1
                obtain rfl := Sum.inl.inj hv
                clear hv
                obtain ⟨h289, eh289⟩ : ∃ z, z = h1 := ⟨_, rfl⟩
                rw [← eh289] at hq ⊢
                clear eh289
                show mv_rq l G mL_law (d + 1) 292 [some (.ref u0), some (.ref u1), some (.ref u2), some (.ref u3), some (.int u4), none, none] [.int x289, .int x279] h289 _
                refine q_icmp_eq (tgt := 483) dL_law_292 (by decide) (fun c292 => ?_) (fun c292 => ?_)
                ·
                  have hq := vif_t hq c292
                  refine q_iinc dL_law_483 rfl rfl ?_
                  show mv_rq l G mL_law (d + 1) 486 [some (.ref u0), some (.ref u1), some (.ref u2), some (.ref u3), some (.int (u4 + 3)), none, none] [] h289 _
                  refine q_goto (tgt := 23) dL_law_486 (by decide) ?_
                  exact mv_weak (A := [some (.ref u0), some (.ref u1), some (.ref u2), some (.ref u3), some (.int (u4 + 3)), none, none]) (by repeat' constructor) hq
                ·
                  have hq := vif_f hq c292
                  refine q_iconst (v := 0) dL_law_295 (by decide) ?_
                  exact q_iret (ty := .boolean) dL_law_296 rfl rfl hq
              ·
                have hq := vif_f hq c39_5
                by_cases c39_6 : (x35 &&& 15) = 6
                ·
                  have hq := vif_t hq c39_6
                  have t39 := md_ti (i := 6) (by decide) c39_6
                  refine q_tableIn (off := 258) (tgt := 297) dL_law_39 (by rw [t39]; decide) (by rw [t39]; decide) (by rw [t39]; rfl) (by decide) ?_
                  refine q_aload_n dL_law_297 rfl ?_
                  refine q_aload_n dL_law_298 rfl ?_
                  refine q_iload dL_law_299 rfl ?_
                  refine q_iconst (v := 1) dL_law_301 (by decide) ?_
                  refine q_iadd dL_law_302 ?_
                  obtain ⟨n303, f303, x303, g303, i303, e303, hq⟩ := vai_e hq
                  refine q_iald (t0 := 1) dL_law_303 (mv_tI hG) g303 i303 ?_
                  rw [← e303]
                  show mv_rq l G mL_law (d + 1) 304 [some (.ref u0), some (.ref u1), some (.ref u2), some (.ref u3), some (.int u4), none, none] [.int x303, .ref u1] h _
                  obtain ⟨⟨fs304, f304⟩, hq⟩ := vob_e hq
                  refine q_cV (Y := mX12_kind) (As := [.int x303]) (st := []) (b := u1) (ci := 14) vc_X12_kind dL_law_304 ml_RL_58 rfl f304 rfl (Nat.le_of_ble_eq_true rfl) rfl (Nat.le_of_ble_eq_true rfl) hq (fun v h1 hq1 => ?_) (fun E h1 hq1 => ?_)
                  rotate_left
                  ·
                    rcases hq1 with hq1 | ⟨E1, e1, hq1⟩
                    · obtain ⟨_, z, _⟩ := hq1; exact nomatch z
                    · obtain rfl := Sum.inr.inj e1; exact q_xout (fun z hz => nomatch hz) hq1
                  rcases hq1 with hq1 | ⟨E1, e1, hq1⟩
                  rotate_left
                  · exact nomatch e1
                  obtain ⟨x304, hv, hq⟩ := hq1
                  obtain rfl := Sum.inl.inj hv
                  clear hv
                  obtain ⟨h304, eh304⟩ : ∃ z, z = h1 := ⟨_, rfl⟩
                  rw [← eh304] at hq ⊢
                  clear eh304
                  show mv_rq l G mL_law (d + 1) 307 [some (.ref u0), some (.ref u1), some (.ref u2), some (.ref u3), some (.int u4), none, none] [.int x304] h304 _
                  refine q_aload_n dL_law_307 rfl ?_
                  refine q_aload_n dL_law_308 rfl ?_
                  refine q_iload dL_law_309 rfl ?_
                  refine q_iconst (v := 1) dL_law_311 (by decide) ?_
                  refine q_iadd dL_law_312 ?_
                  obtain ⟨n313, f313, x313, g313, i313, e313, hq⟩ := vai_e hq
                  refine q_iald (t0 := 1) dL_law_313 (mv_tI hG) g313 i313 ?_
                  rw [← e313]
                  show mv_rq l G mL_law (d + 1) 314 [some (.ref u0), some (.ref u1), some (.ref u2), some (.ref u3), some (.int u4), none, none] [.int x313, .ref u2, .int x304] h304 _
                  obtain ⟨⟨fs314, f314⟩, hq⟩ := vob_e hq
                  refine q_cV (Y := mX13_kind) (As := [.int x313]) (st := [.int x304]) (b := u2) (ci := 15) vc_X13_kind dL_law_314 ml_RL_61 rfl f314 rfl (Nat.le_of_ble_eq_true rfl) rfl (Nat.le_of_ble_eq_true rfl) hq (fun v h1 hq1 => ?_) (fun E h1 hq1 => ?_)
                  rotate_left
                  ·
                    rcases hq1 with hq1 | ⟨E1, e1, hq1⟩
                    · obtain ⟨_, z, _⟩ := hq1; exact nomatch z
                    · obtain rfl := Sum.inr.inj e1; exact q_xout (fun z hz => nomatch hz) hq1
                  rcases hq1 with hq1 | ⟨E1, e1, hq1⟩
                  rotate_left
                  · exact nomatch e1
                  obtain ⟨x314, hv, hq⟩ := hq1
                  obtain rfl := Sum.inl.inj hv
                  clear hv
                  obtain ⟨h314, eh314⟩ : ∃ z, z = h1 := ⟨_, rfl⟩
                  rw [← eh314] at hq ⊢
                  clear eh314
                  show mv_rq l G mL_law (d + 1) 317 [some (.ref u0), some (.ref u1), some (.ref u2), some (.ref u3), some (.int u4), none, none] [.int x314, .int x304] h314 _
                  refine q_icmp_eq (tgt := 483) dL_law_317 (by decide) (fun c317 => ?_) (fun c317 => ?_)
                  ·
                    have hq := vif_t hq c317
                    refine q_iinc dL_law_483 rfl rfl ?_
                    show mv_rq l G mL_law (d + 1) 486 [some (.ref u0), some (.ref u1), some (.ref u2), some (.ref u3), some (.int (u4 + 3)), none, none] [] h314 _
                    refine q_goto (tgt := 23) dL_law_486 (by decide) ?_
                    exact mv_weak (A := [some (.ref u0), some (.ref u1), some (.ref u2), some (.ref u3), some (.int (u4 + 3)), none, none]) (by repeat' constructor) hq
                  ·
                    have hq := vif_f hq c317
                    refine q_iconst (v := 0) dL_law_320 (by decide) ?_
                    exact q_iret (ty := .boolean) dL_law_321 rfl rfl hq
                ·
                  have hq := vif_f hq c39_6
                  by_cases c39_7 : (x35 &&& 15) = 7
                  ·
                    have hq := vif_t hq c39_7
                    have t39 := md_ti (i := 7) (by decide) c39_7
                    refine q_tableIn (off := 283) (tgt := 322) dL_law_39 (by rw [t39]; decide) (by rw [t39]; decide) (by rw [t39]; rfl) (by decide) ?_
                    refine q_aload_n dL_law_322 rfl ?_
                    refine q_aload_n dL_law_323 rfl ?_
                    refine q_iload dL_law_324 rfl ?_
                    refine q_iconst (v := 1) dL_law_326 (by decide) ?_
                    refine q_iadd dL_law_327 ?_
                    obtain ⟨n328, f328, x328, g328, i328, e328, hq⟩ := vai_e hq
                    refine q_iald (t0 := 1) dL_law_328 (mv_tI hG) g328 i328 ?_
                    rw [← e328]
                    show mv_rq l G mL_law (d + 1) 329 [some (.ref u0), some (.ref u1), some (.ref u2), some (.ref u3), some (.int u4), none, none] [.int x328, .ref u1] h _
                    obtain ⟨⟨fs329, f329⟩, hq⟩ := vob_e hq
                    refine q_cV (Y := mX12_size) (As := [.int x328]) (st := []) (b := u1) (ci := 14) vc_X12_size dL_law_329 ml_RL_62 rfl f329 rfl (Nat.le_of_ble_eq_true rfl) rfl (Nat.le_of_ble_eq_true rfl) hq (fun v h1 hq1 => ?_) (fun E h1 hq1 => ?_)
                    rotate_left
                    ·
                      rcases hq1 with hq1 | ⟨E1, e1, hq1⟩
                      · obtain ⟨_, z, _⟩ := hq1; exact nomatch z
                      · obtain rfl := Sum.inr.inj e1; exact q_xout (fun z hz => nomatch hz) hq1
                    rcases hq1 with hq1 | ⟨E1, e1, hq1⟩
                    rotate_left
                    · exact nomatch e1
                    obtain ⟨x329, hv, hq⟩ := hq1
                    obtain rfl := Sum.inl.inj hv
                    clear hv
                    obtain ⟨h329, eh329⟩ : ∃ z, z = h1 := ⟨_, rfl⟩
                    rw [← eh329] at hq ⊢
                    clear eh329
                    show mv_rq l G mL_law (d + 1) 332 [some (.ref u0), some (.ref u1), some (.ref u2), some (.ref u3), some (.int u4), none, none] [.int x329] h329 _
                    refine q_aload_n dL_law_332 rfl ?_
                    refine q_aload_n dL_law_333 rfl ?_
                    refine q_iload dL_law_334 rfl ?_
                    refine q_iconst (v := 1) dL_law_336 (by decide) ?_
                    refine q_iadd dL_law_337 ?_
                    obtain ⟨n338, f338, x338, g338, i338, e338, hq⟩ := vai_e hq
                    refine q_iald (t0 := 1) dL_law_338 (mv_tI hG) g338 i338 ?_
                    rw [← e338]
                    show mv_rq l G mL_law (d + 1) 339 [some (.ref u0), some (.ref u1), some (.ref u2), some (.ref u3), some (.int u4), none, none] [.int x338, .ref u2, .int x329] h329 _
                    obtain ⟨⟨fs339, f339⟩, hq⟩ := vob_e hq
                    refine q_cV (Y := mX13_size) (As := [.int x338]) (st := [.int x329]) (b := u2) (ci := 15) vc_X13_size dL_law_339 ml_RL_65 rfl f339 rfl (Nat.le_of_ble_eq_true rfl) rfl (Nat.le_of_ble_eq_true rfl) hq (fun v h1 hq1 => ?_) (fun E h1 hq1 => ?_)
                    rotate_left
                    ·
                      rcases hq1 with hq1 | ⟨E1, e1, hq1⟩
                      · obtain ⟨_, z, _⟩ := hq1; exact nomatch z
                      · obtain rfl := Sum.inr.inj e1; exact q_xout (fun z hz => nomatch hz) hq1
                    rcases hq1 with hq1 | ⟨E1, e1, hq1⟩
                    rotate_left
                    · exact nomatch e1
                    obtain ⟨x339, hv, hq⟩ := hq1
                    obtain rfl := Sum.inl.inj hv
                    clear hv
                    obtain ⟨h339, eh339⟩ : ∃ z, z = h1 := ⟨_, rfl⟩
                    rw [← eh339] at hq ⊢
                    clear eh339
                    show mv_rq l G mL_law (d + 1) 342 [some (.ref u0), some (.ref u1), some (.ref u2), some (.ref u3), some (.int u4), none, none] [.int x339, .int x329] h339 _
                    refine q_icmp_eq (tgt := 483) dL_law_342 (by decide) (fun c342 => ?_) (fun c342 => ?_)
                    ·
                      have hq := vif_t hq c342
                      refine q_iinc dL_law_483 rfl rfl ?_
                      show mv_rq l G mL_law (d + 1) 486 [some (.ref u0), some (.ref u1), some (.ref u2), some (.ref u3), some (.int (u4 + 3)), none, none] [] h339 _
                      refine q_goto (tgt := 23) dL_law_486 (by decide) ?_
                      exact mv_weak (A := [some (.ref u0), some (.ref u1), some (.ref u2), some (.ref u3), some (.int (u4 + 3)), none, none]) (by repeat' constructor) hq
                    ·
                      have hq := vif_f hq c342
                      refine q_iconst (v := 0) dL_law_345 (by decide) ?_
                      exact q_iret (ty := .boolean) dL_law_346 rfl rfl hq
                  ·
                    have hq := vif_f hq c39_7
                    by_cases c39_8 : (x35 &&& 15) = 8
                    ·
                      have hq := vif_t hq c39_8
                      have t39 := md_ti (i := 8) (by decide) c39_8
                      refine q_tableIn (off := 308) (tgt := 347) dL_law_39 (by rw [t39]; decide) (by rw [t39]; decide) (by rw [t39]; rfl) (by decide) ?_
                      refine q_aload_n dL_law_347 rfl ?_
                      refine q_aload_n dL_law_348 rfl ?_
                      refine q_iload dL_law_349 rfl ?_
                      refine q_iconst (v := 1) dL_law_351 (by decide) ?_
                      refine q_iadd dL_law_352 ?_
                      obtain ⟨n353, f353, x353, g353, i353, e353, hq⟩ := vai_e hq
                      refine q_iald (t0 := 1) dL_law_353 (mv_tI hG) g353 i353 ?_
                      rw [← e353]
                      show mv_rq l G mL_law (d + 1) 354 [some (.ref u0), some (.ref u1), some (.ref u2), some (.ref u3), some (.int u4), none, none] [.int x353, .ref u1] h _
                      refine q_aload_n dL_law_354 rfl ?_
                      refine q_iload dL_law_355 rfl ?_
                      refine q_iconst (v := 2) dL_law_357 (by decide) ?_
                      refine q_iadd dL_law_358 ?_
                      obtain ⟨n359, f359, x359, g359, i359, e359, hq⟩ := vai_e hq
                      refine q_iald (t0 := 1) dL_law_359 (mv_tI hG) g359 i359 ?_
                      rw [← e359]
                      show mv_rq l G mL_law (d + 1) 360 [some (.ref u0), some (.ref u1), some (.ref u2), some (.ref u3), some (.int u4), none, none] [.int x359, .int x353, .ref u1] h _
                      obtain ⟨⟨fs360, f360⟩, hq⟩ := vob_e hq
                      refine q_cV (Y := mX12_character) (As := [.int x353, .int x359]) (st := []) (b := u1) (ci := 14) vc_X12_character dL_law_360 ml_RL_66 rfl f360 rfl (Nat.le_of_ble_eq_true rfl) rfl (Nat.le_of_ble_eq_true rfl) hq (fun v h1 hq1 => ?_) (fun E h1 hq1 => ?_)
                      rotate_left
                      ·
                        rcases hq1 with hq1 | ⟨E1, e1, hq1⟩
                        · obtain ⟨_, z, _⟩ := hq1; exact nomatch z
                        · obtain rfl := Sum.inr.inj e1; exact q_xout (fun z hz => nomatch hz) hq1
                      rcases hq1 with hq1 | ⟨E1, e1, hq1⟩
                      rotate_left
                      · exact nomatch e1
                      obtain ⟨x360, hv, hq⟩ := hq1
                      obtain rfl := Sum.inl.inj hv
                      clear hv
                      obtain ⟨h360, eh360⟩ : ∃ z, z = h1 := ⟨_, rfl⟩
                      rw [← eh360] at hq ⊢
                      clear eh360
                      show mv_rq l G mL_law (d + 1) 363 [some (.ref u0), some (.ref u1), some (.ref u2), some (.ref u3), some (.int u4), none, none] [.int x360] h360 _
                      refine q_aload_n dL_law_363 rfl ?_
                      refine q_aload_n dL_law_364 rfl ?_
                      refine q_iload dL_law_365 rfl ?_
                      refine q_iconst (v := 1) dL_law_367 (by decide) ?_
                      refine q_iadd dL_law_368 ?_
                      obtain ⟨n369, f369, x369, g369, i369, e369, hq⟩ := vai_e hq
                      refine q_iald (t0 := 1) dL_law_369 (mv_tI hG) g369 i369 ?_
                      rw [← e369]
                      show mv_rq l G mL_law (d + 1) 370 [some (.ref u0), some (.ref u1), some (.ref u2), some (.ref u3), some (.int u4), none, none] [.int x369, .ref u2, .int x360] h360 _
                      refine q_aload_n dL_law_370 rfl ?_
                      refine q_iload dL_law_371 rfl ?_
                      refine q_iconst (v := 2) dL_law_373 (by decide) ?_
                      refine q_iadd dL_law_374 ?_
                      obtain ⟨n375, f375, x375, g375, i375, e375, hq⟩ := vai_e hq
                      refine q_iald (t0 := 1) dL_law_375 (mv_tI hG) g375 i375 ?_
                      rw [← e375]
                      show mv_rq l G mL_law (d + 1) 376 [some (.ref u0), some (.ref u1), some (.ref u2), some (.ref u3), some (.int u4), none, none] [.int x375, .int x369, .ref u2, .int x360] h360 _
                      obtain ⟨⟨fs376, f376⟩, hq⟩ := vob_e hq
                      refine q_cV (Y := mX13_character) (As := [.int x369, .int x375]) (st := [.int x360]) (b := u2) (ci := 15) vc_X13_character dL_law_376 ml_RL_70 rfl f376 rfl (Nat.le_of_ble_eq_true rfl) rfl (Nat.le_of_ble_eq_true rfl) hq (fun v h1 hq1 => ?_) (fun E h1 hq1 => ?_)
                      rotate_left
                      ·
                        rcases hq1 with hq1 | ⟨E1, e1, hq1⟩
                        · obtain ⟨_, z, _⟩ := hq1; exact nomatch z
                        · obtain rfl := Sum.inr.inj e1; exact q_xout (fun z hz => nomatch hz) hq1
                      rcases hq1 with hq1 | ⟨E1, e1, hq1⟩
                      rotate_left
                      · exact nomatch e1
                      obtain ⟨x376, hv, hq⟩ := hq1
                      obtain rfl := Sum.inl.inj hv
                      clear hv
                      obtain ⟨h376, eh376⟩ : ∃ z, z = h1 := ⟨_, rfl⟩
                      rw [← eh376] at hq ⊢
                      clear eh376
                      show mv_rq l G mL_law (d + 1) 379 [some (.ref u0), some (.ref u1), some (.ref u2), some (.ref u3), some (.int u4), none, none] [.int x376, .int x360] h376 _
                      refine q_icmp_eq (tgt := 483) dL_law_379 (by decide) (fun c379 => ?_) (fun c379 => ?_)
                      ·
                        have hq := vif_t hq c379
                        refine q_iinc dL_law_483 rfl rfl ?_
                        show mv_rq l G mL_law (d + 1) 486 [some (.ref u0), some (.ref u1), some (.ref u2), some (.ref u3), some (.int (u4 + 3)), none, none] [] h376 _
                        refine q_goto (tgt := 23) dL_law_486 (by decide) ?_
                        exact mv_weak (A := [some (.ref u0), some (.ref u1), some (.ref u2), some (.ref u3), some (.int (u4 + 3)), none, none]) (by repeat' constructor) hq
                      ·
                        have hq := vif_f hq c379
                        refine q_iconst (v := 0) dL_law_382 (by decide) ?_
                        exact q_iret (ty := .boolean) dL_law_383 rfl rfl hq
                    ·
                      have hq := vif_f hq c39_8
                      by_cases c39_9 : (x35 &&& 15) = 9
                      ·
                        have hq := vif_t hq c39_9
                        have t39 := md_ti (i := 9) (by decide) c39_9
                        refine q_tableIn (off := 345) (tgt := 384) dL_law_39 (by rw [t39]; decide) (by rw [t39]; decide) (by rw [t39]; rfl) (by decide) ?_
                        refine q_aload_n dL_law_384 rfl ?_
                        refine q_aload_n dL_law_385 rfl ?_
                        refine q_iload dL_law_386 rfl ?_
                        refine q_iconst (v := 1) dL_law_388 (by decide) ?_
                        refine q_iadd dL_law_389 ?_
                        obtain ⟨n390, f390, x390, g390, i390, e390, hq⟩ := vai_e hq
                        refine q_iald (t0 := 1) dL_law_390 (mv_tI hG) g390 i390 ?_
                        rw [← e390]
                        show mv_rq l G mL_law (d + 1) 391 [some (.ref u0), some (.ref u1), some (.ref u2), some (.ref u3), some (.int u4), none, none] [.int x390, .ref u1] h _
                        obtain ⟨⟨fs391, f391⟩, hq⟩ := vob_e hq
                        refine q_cV (Y := mX12_outer) (As := [.int x390]) (st := []) (b := u1) (ci := 14) vc_X12_outer dL_law_391 ml_RL_71 rfl f391 rfl (Nat.le_of_ble_eq_true rfl) rfl (Nat.le_of_ble_eq_true rfl) hq (fun v h1 hq1 => ?_) (fun E h1 hq1 => ?_)
                        rotate_left
                        ·
                          rcases hq1 with hq1 | ⟨E1, e1, hq1⟩
                          · obtain ⟨_, z, _⟩ := hq1; exact nomatch z
                          · obtain rfl := Sum.inr.inj e1; exact q_xout (fun z hz => nomatch hz) hq1
                        rcases hq1 with hq1 | ⟨E1, e1, hq1⟩
                        rotate_left
                        · exact nomatch e1
                        obtain ⟨x391, hv, hq⟩ := hq1
                        obtain rfl := Sum.inl.inj hv
                        clear hv
                        obtain ⟨h391, eh391⟩ : ∃ z, z = h1 := ⟨_, rfl⟩
                        rw [← eh391] at hq ⊢
                        clear eh391
                        show mv_rq l G mL_law (d + 1) 394 [some (.ref u0), some (.ref u1), some (.ref u2), some (.ref u3), some (.int u4), none, none] [.int x391] h391 _
                        refine q_aload_n dL_law_394 rfl ?_
                        refine q_aload_n dL_law_395 rfl ?_
                        refine q_iload dL_law_396 rfl ?_
                        refine q_iconst (v := 1) dL_law_398 (by decide) ?_
                        refine q_iadd dL_law_399 ?_
                        obtain ⟨n400, f400, x400, g400, i400, e400, hq⟩ := vai_e hq
                        refine q_iald (t0 := 1) dL_law_400 (mv_tI hG) g400 i400 ?_
                        rw [← e400]
                        show mv_rq l G mL_law (d + 1) 401 [some (.ref u0), some (.ref u1), some (.ref u2), some (.ref u3), some (.int u4), none, none] [.int x400, .ref u2, .int x391] h391 _
                        obtain ⟨⟨fs401, f401⟩, hq⟩ := vob_e hq
                        refine q_cV (Y := mX13_outer) (As := [.int x400]) (st := [.int x391]) (b := u2) (ci := 15) vc_X13_outer dL_law_401 ml_RL_74 rfl f401 rfl (Nat.le_of_ble_eq_true rfl) rfl (Nat.le_of_ble_eq_true rfl) hq (fun v h1 hq1 => ?_) (fun E h1 hq1 => ?_)
                        rotate_left
                        ·
                          rcases hq1 with hq1 | ⟨E1, e1, hq1⟩
                          · obtain ⟨_, z, _⟩ := hq1; exact nomatch z
                          · obtain rfl := Sum.inr.inj e1; exact q_xout (fun z hz => nomatch hz) hq1
                        rcases hq1 with hq1 | ⟨E1, e1, hq1⟩
                        rotate_left
                        · exact nomatch e1
                        obtain ⟨x401, hv, hq⟩ := hq1
                        obtain rfl := Sum.inl.inj hv
                        clear hv
                        obtain ⟨h401, eh401⟩ : ∃ z, z = h1 := ⟨_, rfl⟩
                        rw [← eh401] at hq ⊢
                        clear eh401
                        show mv_rq l G mL_law (d + 1) 404 [some (.ref u0), some (.ref u1), some (.ref u2), some (.ref u3), some (.int u4), none, none] [.int x401, .int x391] h401 _
                        refine q_icmp_eq (tgt := 483) dL_law_404 (by decide) (fun c404 => ?_) (fun c404 => ?_)
                        ·
                          have hq := vif_t hq c404
                          refine q_iinc dL_law_483 rfl rfl ?_
                          show mv_rq l G mL_law (d + 1) 486 [some (.ref u0), some (.ref u1), some (.ref u2), some (.ref u3), some (.int (u4 + 3)), none, none] [] h401 _
                          refine q_goto (tgt := 23) dL_law_486 (by decide) ?_
                          exact mv_weak (A := [some (.ref u0), some (.ref u1), some (.ref u2), some (.ref u3), some (.int (u4 + 3)), none, none]) (by repeat' constructor) hq
                        ·
                          have hq := vif_f hq c404
                          refine q_iconst (v := 0) dL_law_407 (by decide) ?_
                          exact q_iret (ty := .boolean) dL_law_408 rfl rfl hq
                      ·
                        have hq := vif_f hq c39_9
                        by_cases c39_10 : (x35 &&& 15) = 10
                        ·
                          have hq := vif_t hq c39_10
                          have t39 := md_ti (i := 10) (by decide) c39_10
                          refine q_tableIn (off := 370) (tgt := 409) dL_law_39 (by rw [t39]; decide) (by rw [t39]; decide) (by rw [t39]; rfl) (by decide) ?_
                          refine q_aload_n dL_law_409 rfl ?_
                          refine q_aload_n dL_law_410 rfl ?_
                          refine q_iload dL_law_411 rfl ?_
                          refine q_iconst (v := 1) dL_law_413 (by decide) ?_
                          refine q_iadd dL_law_414 ?_
                          obtain ⟨n415, f415, x415, g415, i415, e415, hq⟩ := vai_e hq
                          refine q_iald (t0 := 1) dL_law_415 (mv_tI hG) g415 i415 ?_
                          rw [← e415]
                          show mv_rq l G mL_law (d + 1) 416 [some (.ref u0), some (.ref u1), some (.ref u2), some (.ref u3), some (.int u4), none, none] [.int x415, .ref u1] h _
                          refine q_aload_n dL_law_416 rfl ?_
                          refine q_iload dL_law_417 rfl ?_
                          refine q_iconst (v := 2) dL_law_419 (by decide) ?_
                          refine q_iadd dL_law_420 ?_
                          obtain ⟨n421, f421, x421, g421, i421, e421, hq⟩ := vai_e hq
                          refine q_iald (t0 := 1) dL_law_421 (mv_tI hG) g421 i421 ?_
                          rw [← e421]
                          show mv_rq l G mL_law (d + 1) 422 [some (.ref u0), some (.ref u1), some (.ref u2), some (.ref u3), some (.int u4), none, none] [.int x421, .int x415, .ref u1] h _
                          obtain ⟨⟨fs422, f422⟩, hq⟩ := vob_e hq
                          refine q_cV (Y := mX12_path) (As := [.int x415, .int x421]) (st := []) (b := u1) (ci := 14) vc_X12_path dL_law_422 ml_RL_75 rfl f422 rfl (Nat.le_of_ble_eq_true rfl) rfl (Nat.le_of_ble_eq_true rfl) hq (fun v h1 hq1 => ?_) (fun E h1 hq1 => ?_)
                          rotate_left
                          ·
                            rcases hq1 with hq1 | ⟨E1, e1, hq1⟩
                            · obtain ⟨_, z, _⟩ := hq1; exact nomatch z
                            · obtain rfl := Sum.inr.inj e1; exact q_xout (fun z hz => nomatch hz) hq1
                          rcases hq1 with hq1 | ⟨E1, e1, hq1⟩
                          rotate_left
                          · exact nomatch e1
                          obtain ⟨x422, hv, hq⟩ := hq1
                          obtain rfl := Sum.inl.inj hv
                          clear hv
                          obtain ⟨h422, eh422⟩ : ∃ z, z = h1 := ⟨_, rfl⟩
                          rw [← eh422] at hq ⊢
                          clear eh422
                          show mv_rq l G mL_law (d + 1) 425 [some (.ref u0), some (.ref u1), some (.ref u2), some (.ref u3), some (.int u4), none, none] [.int x422] h422 _
                          refine q_aload_n dL_law_425 rfl ?_
                          refine q_aload_n dL_law_426 rfl ?_
                          refine q_iload dL_law_427 rfl ?_
                          refine q_iconst (v := 1) dL_law_429 (by decide) ?_
                          refine q_iadd dL_law_430 ?_
                          obtain ⟨n431, f431, x431, g431, i431, e431, hq⟩ := vai_e hq
                          refine q_iald (t0 := 1) dL_law_431 (mv_tI hG) g431 i431 ?_
                          rw [← e431]
                          show mv_rq l G mL_law (d + 1) 432 [some (.ref u0), some (.ref u1), some (.ref u2), some (.ref u3), some (.int u4), none, none] [.int x431, .ref u2, .int x422] h422 _
                          refine q_aload_n dL_law_432 rfl ?_
                          refine q_iload dL_law_433 rfl ?_
                          refine q_iconst (v := 2) dL_law_435 (by decide) ?_
                          refine q_iadd dL_law_436 ?_
                          obtain ⟨n437, f437, x437, g437, i437, e437, hq⟩ := vai_e hq
                          refine q_iald (t0 := 1) dL_law_437 (mv_tI hG) g437 i437 ?_
                          rw [← e437]
                          show mv_rq l G mL_law (d + 1) 438 [some (.ref u0), some (.ref u1), some (.ref u2), some (.ref u3), some (.int u4), none, none] [.int x437, .int x431, .ref u2, .int x422] h422 _
                          obtain ⟨⟨fs438, f438⟩, hq⟩ := vob_e hq
                          refine q_cV (Y := mX13_path) (As := [.int x431, .int x437]) (st := [.int x422]) (b := u2) (ci := 15) vc_X13_path dL_law_438 ml_RL_78 rfl f438 rfl (Nat.le_of_ble_eq_true rfl) rfl (Nat.le_of_ble_eq_true rfl) hq (fun v h1 hq1 => ?_) (fun E h1 hq1 => ?_)
                          rotate_left
                          ·
                            rcases hq1 with hq1 | ⟨E1, e1, hq1⟩
                            · obtain ⟨_, z, _⟩ := hq1; exact nomatch z
                            · obtain rfl := Sum.inr.inj e1; exact q_xout (fun z hz => nomatch hz) hq1
                          rcases hq1 with hq1 | ⟨E1, e1, hq1⟩
                          rotate_left
                          · exact nomatch e1
                          obtain ⟨x438, hv, hq⟩ := hq1
                          obtain rfl := Sum.inl.inj hv
                          clear hv
                          obtain ⟨h438, eh438⟩ : ∃ z, z = h1 := ⟨_, rfl⟩
                          rw [← eh438] at hq ⊢
                          clear eh438
                          show mv_rq l G mL_law (d + 1) 441 [some (.ref u0), some (.ref u1), some (.ref u2), some (.ref u3), some (.int u4), none, none] [.int x438, .int x422] h438 _
                          refine q_icmp_eq (tgt := 483) dL_law_441 (by decide) (fun c441 => ?_) (fun c441 => ?_)
                          ·
                            have hq := vif_t hq c441
                            refine q_iinc dL_law_483 rfl rfl ?_
                            show mv_rq l G mL_law (d + 1) 486 [some (.ref u0), some (.ref u1), some (.ref u2), some (.ref u3), some (.int (u4 + 3)), none, none] [] h438 _
                            refine q_goto (tgt := 23) dL_law_486 (by decide) ?_
                            exact mv_weak (A := [some (.ref u0), some (.ref u1), some (.ref u2), some (.ref u3), some (.int (u4 + 3)), none, none]) (by repeat' constructor) hq
                          ·
                            have hq := vif_f hq c441
                            refine q_iconst (v := 0) dL_law_444 (by decide) ?_
                            exact q_iret (ty := .boolean) dL_law_445 rfl rfl hq
                        ·
                          have hq := vif_f hq c39_10
                          by_cases c39_11 : (x35 &&& 15) = 11
                          ·
                            have hq := vif_t hq c39_11
                            have t39 := md_ti (i := 11) (by decide) c39_11
                            refine q_tableIn (off := 407) (tgt := 446) dL_law_39 (by rw [t39]; decide) (by rw [t39]; decide) (by rw [t39]; rfl) (by decide) ?_
                            refine q_aload_n dL_law_446 rfl ?_
                            refine q_aload_n dL_law_447 rfl ?_
                            refine q_iload dL_law_448 rfl ?_
                            refine q_iconst (v := 1) dL_law_450 (by decide) ?_
                            refine q_iadd dL_law_451 ?_
                            obtain ⟨n452, f452, x452, g452, i452, e452, hq⟩ := vai_e hq
                            refine q_iald (t0 := 1) dL_law_452 (mv_tI hG) g452 i452 ?_
                            rw [← e452]
                            show mv_rq l G mL_law (d + 1) 453 [some (.ref u0), some (.ref u1), some (.ref u2), some (.ref u3), some (.int u4), none, none] [.int x452, .ref u1] h _
                            refine q_aload_n dL_law_453 rfl ?_
                            refine q_iload dL_law_454 rfl ?_
                            refine q_iconst (v := 2) dL_law_456 (by decide) ?_
                            refine q_iadd dL_law_457 ?_
                            obtain ⟨n458, f458, x458, g458, i458, e458, hq⟩ := vai_e hq
                            refine q_iald (t0 := 1) dL_law_458 (mv_tI hG) g458 i458 ?_
                            rw [← e458]
                            show mv_rq l G mL_law (d + 1) 459 [some (.ref u0), some (.ref u1), some (.ref u2), some (.ref u3), some (.int u4), none, none] [.int x458, .int x452, .ref u1] h _
                            obtain ⟨⟨fs459, f459⟩, hq⟩ := vob_e hq
                            refine q_cV (Y := mX12_text) (As := [.int x452, .int x458]) (st := []) (b := u1) (ci := 14) vc_X12_text dL_law_459 ml_RL_79 rfl f459 rfl (Nat.le_of_ble_eq_true rfl) rfl (Nat.le_of_ble_eq_true rfl) hq (fun v h1 hq1 => ?_) (fun E h1 hq1 => ?_)
                            rotate_left
                            ·
                              rcases hq1 with hq1 | ⟨E1, e1, hq1⟩
                              · obtain ⟨_, z, _⟩ := hq1; exact nomatch z
                              · obtain rfl := Sum.inr.inj e1; exact q_xout (fun z hz => nomatch hz) hq1
                            rcases hq1 with hq1 | ⟨E1, e1, hq1⟩
                            rotate_left
                            · exact nomatch e1
                            obtain ⟨x459, hv, hq⟩ := hq1
                            obtain rfl := Sum.inl.inj hv
                            clear hv
                            obtain ⟨h459, eh459⟩ : ∃ z, z = h1 := ⟨_, rfl⟩
                            rw [← eh459] at hq ⊢
                            clear eh459
                            show mv_rq l G mL_law (d + 1) 462 [some (.ref u0), some (.ref u1), some (.ref u2), some (.ref u3), some (.int u4), none, none] [.int x459] h459 _
                            refine q_aload_n dL_law_462 rfl ?_
                            refine q_aload_n dL_law_463 rfl ?_
                            refine q_iload dL_law_464 rfl ?_
                            refine q_iconst (v := 1) dL_law_466 (by decide) ?_
                            refine q_iadd dL_law_467 ?_
                            obtain ⟨n468, f468, x468, g468, i468, e468, hq⟩ := vai_e hq
                            refine q_iald (t0 := 1) dL_law_468 (mv_tI hG) g468 i468 ?_
                            rw [← e468]
                            show mv_rq l G mL_law (d + 1) 469 [some (.ref u0), some (.ref u1), some (.ref u2), some (.ref u3), some (.int u4), none, none] [.int x468, .ref u2, .int x459] h459 _
                            refine q_aload_n dL_law_469 rfl ?_
                            refine q_iload dL_law_470 rfl ?_
                            refine q_iconst (v := 2) dL_law_472 (by decide) ?_
                            refine q_iadd dL_law_473 ?_
                            obtain ⟨n474, f474, x474, g474, i474, e474, hq⟩ := vai_e hq
                            refine q_iald (t0 := 1) dL_law_474 (mv_tI hG) g474 i474 ?_
                            rw [← e474]
                            show mv_rq l G mL_law (d + 1) 475 [some (.ref u0), some (.ref u1), some (.ref u2), some (.ref u3), some (.int u4), none, none] [.int x474, .int x468, .ref u2, .int x459] h459 _
                            obtain ⟨⟨fs475, f475⟩, hq⟩ := vob_e hq
                            refine q_cV (Y := mX13_text) (As := [.int x468, .int x474]) (st := [.int x459]) (b := u2) (ci := 15) vc_X13_text dL_law_475 ml_RL_82 rfl f475 rfl (Nat.le_of_ble_eq_true rfl) rfl (Nat.le_of_ble_eq_true rfl) hq (fun v h1 hq1 => ?_) (fun E h1 hq1 => ?_)
                            rotate_left
                            ·
                              rcases hq1 with hq1 | ⟨E1, e1, hq1⟩
                              · obtain ⟨_, z, _⟩ := hq1; exact nomatch z
                              · obtain rfl := Sum.inr.inj e1; exact q_xout (fun z hz => nomatch hz) hq1
                            rcases hq1 with hq1 | ⟨E1, e1, hq1⟩
                            rotate_left
                            · exact nomatch e1
                            obtain ⟨x475, hv, hq⟩ := hq1
                            obtain rfl := Sum.inl.inj hv
                            clear hv
                            obtain ⟨h475, eh475⟩ : ∃ z, z = h1 := ⟨_, rfl⟩
                            rw [← eh475] at hq ⊢
                            clear eh475
                            show mv_rq l G mL_law (d + 1) 478 [some (.ref u0), some (.ref u1), some (.ref u2), some (.ref u3), some (.int u4), none, none] [.int x475, .int x459] h475 _
                            refine q_icmp_eq (tgt := 483) dL_law_478 (by decide) (fun c478 => ?_) (fun c478 => ?_)
                            ·
                              have hq := vif_t hq c478
                              refine q_iinc dL_law_483 rfl rfl ?_
                              show mv_rq l G mL_law (d + 1) 486 [some (.ref u0), some (.ref u1), some (.ref u2), some (.ref u3), some (.int (u4 + 3)), none, none] [] h475 _
                              refine q_goto (tgt := 23) dL_law_486 (by decide) ?_
                              exact mv_weak (A := [some (.ref u0), some (.ref u1), some (.ref u2), some (.ref u3), some (.int (u4 + 3)), none, none]) (by repeat' constructor) hq
                            ·
                              have hq := vif_f hq c478
                              refine q_iconst (v := 0) dL_law_481 (by decide) ?_
                              exact q_iret (ty := .boolean) dL_law_482 rfl rfl hq
                          ·
                            have hq := vif_f hq c39_11
                            refine q_tableOut (tgt := 483) dL_law_39 (by have e0 := md_tn (i := 0) (by decide) c39_0; have e1 := md_tn (i := 1) (by decide) c39_1; have e2 := md_tn (i := 2) (by decide) c39_2; have e3 := md_tn (i := 3) (by decide) c39_3; have e4 := md_tn (i := 4) (by decide) c39_4; have e5 := md_tn (i := 5) (by decide) c39_5; have e6 := md_tn (i := 6) (by decide) c39_6; have e7 := md_tn (i := 7) (by decide) c39_7; have e8 := md_tn (i := 8) (by decide) c39_8; have e9 := md_tn (i := 9) (by decide) c39_9; have e10 := md_tn (i := 10) (by decide) c39_10; have e11 := md_tn (i := 11) (by decide) c39_11; omega) (by decide) ?_
                            refine q_iinc dL_law_483 rfl rfl ?_
                            show mv_rq l G mL_law (d + 1) 486 [some (.ref u0), some (.ref u1), some (.ref u2), some (.ref u3), some (.int (u4 + 3)), none, none] [] h _
                            refine q_goto (tgt := 23) dL_law_486 (by decide) ?_
                            exact mv_weak (A := [some (.ref u0), some (.ref u1), some (.ref u2), some (.ref u3), some (.int (u4 + 3)), none, none]) (by repeat' constructor) hq
