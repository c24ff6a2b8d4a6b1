theorem dX11_init_0 : decode cX11_init 0 = .ok (.aload_n 0, 1) := by decide +kernel
theorem dX11_init_1 : decode cX11_init 1 = .ok (.invokespecial 1, 3) := by decide +kernel
theorem dX11_init_4 : decode cX11_init 4 = .ok (.aload_n 0, 1) := by decide +kernel
theorem dX11_init_5 : decode cX11_init 5 = .ok (.bipush 17, 2) := by decide +kernel
theorem dX11_init_7 : decode cX11_init 7 = .ok (.newarray .boolean, 2) := by decide +kernel
theorem dX11_init_9 : decode cX11_init 9 = .ok (.putfield 7, 3) := by decide +kernel
theorem dX11_init_12 : decode cX11_init 12 = .ok (.aload_n 0, 1) := by decide +kernel
theorem dX11_init_13 : decode cX11_init 13 = .ok (.bipush 17, 2) := by decide +kernel
theorem dX11_init_15 : decode cX11_init 15 = .ok (.newarray .long, 2) := by decide +kernel
theorem dX11_init_17 : decode cX11_init 17 = .ok (.putfield 13, 3) := by decide +kernel
theorem dX11_init_20 : decode cX11_init 20 = .ok (.aload_n 0, 1) := by decide +kernel
theorem dX11_init_21 : decode cX11_init 21 = .ok (.bipush 17, 2) := by decide +kernel
theorem dX11_init_23 : decode cX11_init 23 = .ok (.newarray .int, 2) := by decide +kernel
theorem dX11_init_25 : decode cX11_init 25 = .ok (.putfield 17, 3) := by decide +kernel
theorem dX11_init_28 : decode cX11_init 28 = .ok (.aload_n 0, 1) := by decide +kernel
theorem dX11_init_29 : decode cX11_init 29 = .ok (.bipush 17, 2) := by decide +kernel
theorem dX11_init_31 : decode cX11_init 31 = .ok (.newarray .int, 2) := by decide +kernel
theorem dX11_init_33 : decode cX11_init 33 = .ok (.putfield 21, 3) := by decide +kernel
theorem dX11_init_36 : decode cX11_init 36 = .ok (.aload_n 0, 1) := by decide +kernel
theorem dX11_init_37 : decode cX11_init 37 = .ok (.sipush 136, 3) := by decide +kernel
theorem dX11_init_40 : decode cX11_init 40 = .ok (.newarray .long, 2) := by decide +kernel
theorem dX11_init_42 : decode cX11_init 42 = .ok (.putfield 24, 3) := by decide +kernel
theorem dX11_init_45 : decode cX11_init 45 = .ok (.aload_n 0, 1) := by decide +kernel
theorem dX11_init_46 : decode cX11_init 46 = .ok (.sipush 136, 3) := by decide +kernel
theorem dX11_init_49 : decode cX11_init 49 = .ok (.newarray .int, 2) := by decide +kernel
theorem dX11_init_51 : decode cX11_init 51 = .ok (.putfield 27, 3) := by decide +kernel
theorem dX11_init_54 : decode cX11_init 54 = .ok (.aload_n 0, 1) := by decide +kernel
theorem dX11_init_55 : decode cX11_init 55 = .ok (.bipush 17, 2) := by decide +kernel
theorem dX11_init_57 : decode cX11_init 57 = .ok (.newarray .int, 2) := by decide +kernel
theorem dX11_init_59 : decode cX11_init 59 = .ok (.putfield 30, 3) := by decide +kernel
theorem dX11_init_62 : decode cX11_init 62 = .ok (.aload_n 0, 1) := by decide +kernel
theorem dX11_init_63 : decode cX11_init 63 = .ok (.bipush 51, 2) := by decide +kernel
theorem dX11_init_65 : decode cX11_init 65 = .ok (.newarray .int, 2) := by decide +kernel
theorem dX11_init_67 : decode cX11_init 67 = .ok (.putfield 33, 3) := by decide +kernel
theorem dX11_init_70 : decode cX11_init 70 = .ok (.aload_n 0, 1) := by decide +kernel
theorem dX11_init_71 : decode cX11_init 71 = .ok (.bipush 17, 2) := by decide +kernel
theorem dX11_init_73 : decode cX11_init 73 = .ok (.newarray .int, 2) := by decide +kernel
theorem dX11_init_75 : decode cX11_init 75 = .ok (.putfield 36, 3) := by decide +kernel
theorem dX11_init_78 : decode cX11_init 78 = .ok (.aload_n 0, 1) := by decide +kernel
theorem dX11_init_79 : decode cX11_init 79 = .ok (.bipush 17, 2) := by decide +kernel
theorem dX11_init_81 : decode cX11_init 81 = .ok (.newarray .int, 2) := by decide +kernel
theorem dX11_init_83 : decode cX11_init 83 = .ok (.putfield 39, 3) := by decide +kernel
theorem dX11_init_86 : decode cX11_init 86 = .ok (.aload_n 0, 1) := by decide +kernel
theorem dX11_init_87 : decode cX11_init 87 = .ok (.bipush 17, 2) := by decide +kernel
theorem dX11_init_89 : decode cX11_init 89 = .ok (.newarray .int, 2) := by decide +kernel
theorem dX11_init_91 : decode cX11_init 91 = .ok (.putfield 42, 3) := by decide +kernel
theorem dX11_init_94 : decode cX11_init 94 = .ok (.aload_n 0, 1) := by decide +kernel
theorem dX11_init_95 : decode cX11_init 95 = .ok (.bipush 17, 2) := by decide +kernel
theorem dX11_init_97 : decode cX11_init 97 = .ok (.newarray .int, 2) := by decide +kernel
theorem dX11_init_99 : decode cX11_init 99 = .ok (.putfield 45, 3) := by decide +kernel
theorem dX11_init_102 : decode cX11_init 102 = .ok (.aload_n 0, 1) := by decide +kernel
theorem dX11_init_103 : decode cX11_init 103 = .ok (.bipush 17, 2) := by decide +kernel
theorem dX11_init_105 : decode cX11_init 105 = .ok (.newarray .int, 2) := by decide +kernel
theorem dX11_init_107 : decode cX11_init 107 = .ok (.putfield 48, 3) := by decide +kernel
theorem dX11_init_110 : decode cX11_init 110 = .ok (.aload_n 0, 1) := by decide +kernel
theorem dX11_init_111 : decode cX11_init 111 = .ok (.sipush 6800, 3) := by decide +kernel
theorem dX11_init_114 : decode cX11_init 114 = .ok (.newarray .int, 2) := by decide +kernel
theorem dX11_init_116 : decode cX11_init 116 = .ok (.putfield 51, 3) := by decide +kernel
theorem dX11_init_119 : decode cX11_init 119 = .ok (.aload_n 0, 1) := by decide +kernel
theorem dX11_init_120 : decode cX11_init 120 = .ok (.sipush 6800, 3) := by decide +kernel
theorem dX11_init_123 : decode cX11_init 123 = .ok (.newarray .int, 2) := by decide +kernel
theorem dX11_init_125 : decode cX11_init 125 = .ok (.putfield 54, 3) := by decide +kernel
theorem dX11_init_128 : decode cX11_init 128 = .ok (.aload_n 0, 1) := by decide +kernel
theorem dX11_init_129 : decode cX11_init 129 = .ok (.sipush 6800, 3) := by decide +kernel
theorem dX11_init_132 : decode cX11_init 132 = .ok (.newarray .int, 2) := by decide +kernel
theorem dX11_init_134 : decode cX11_init 134 = .ok (.putfield 57, 3) := by decide +kernel
theorem dX11_init_137 : decode cX11_init 137 = .ok (.aload_n 0, 1) := by decide +kernel
theorem dX11_init_138 : decode cX11_init 138 = .ok (.sipush 6800, 3) := by decide +kernel
theorem dX11_init_141 : decode cX11_init 141 = .ok (.newarray .int, 2) := by decide +kernel
theorem dX11_init_143 : decode cX11_init 143 = .ok (.putfield 60, 3) := by decide +kernel
theorem dX11_init_146 : decode cX11_init 146 = .ok (.aload_n 0, 1) := by decide +kernel
theorem dX11_init_147 : decode cX11_init 147 = .ok (.sipush 136, 3) := by decide +kernel
theorem dX11_init_150 : decode cX11_init 150 = .ok (.newarray .int, 2) := by decide +kernel
theorem dX11_init_152 : decode cX11_init 152 = .ok (.putfield 63, 3) := by decide +kernel
theorem dX11_init_155 : decode cX11_init 155 = .ok (.aload_n 0, 1) := by decide +kernel
theorem dX11_init_156 : decode cX11_init 156 = .ok (.sipush 136, 3) := by decide +kernel
theorem dX11_init_159 : decode cX11_init 159 = .ok (.newarray .int, 2) := by decide +kernel
theorem dX11_init_161 : decode cX11_init 161 = .ok (.putfield 66, 3) := by decide +kernel
theorem dX11_init_164 : decode cX11_init 164 = .ok (.aload_n 0, 1) := by decide +kernel
theorem dX11_init_165 : decode cX11_init 165 = .ok (.bipush 17, 2) := by decide +kernel
theorem dX11_init_167 : decode cX11_init 167 = .ok (.newarray .int, 2) := by decide +kernel
theorem dX11_init_169 : decode cX11_init 169 = .ok (.putfield 69, 3) := by decide +kernel
theorem dX11_init_172 : decode cX11_init 172 = .ok (.aload_n 0, 1) := by decide +kernel
theorem dX11_init_173 : decode cX11_init 173 = .ok (.sipush 400, 3) := by decide +kernel
theorem dX11_init_176 : decode cX11_init 176 = .ok (.newarray .int, 2) := by decide +kernel
theorem dX11_init_178 : decode cX11_init 178 = .ok (.putfield 72, 3) := by decide +kernel
theorem dX11_init_181 : decode cX11_init 181 = .ok (.aload_n 0, 1) := by decide +kernel
theorem dX11_init_182 : decode cX11_init 182 = .ok (.iconst (-1), 1) := by decide +kernel
theorem dX11_init_183 : decode cX11_init 183 = .ok (.putfield 75, 3) := by decide +kernel
theorem dX11_init_186 : decode cX11_init 186 = .ok (.aload_n 0, 1) := by decide +kernel
theorem dX11_init_187 : decode cX11_init 187 = .ok (.bipush 118, 2) := by decide +kernel
theorem dX11_init_189 : decode cX11_init 189 = .ok (.bipush 105, 2) := by decide +kernel
theorem dX11_init_191 : decode cX11_init 191 = .ok (.bipush 101, 2) := by decide +kernel
theorem dX11_init_193 : decode cX11_init 193 = .ok (.bipush 119, 2) := by decide +kernel
theorem dX11_init_195 : decode cX11_init 195 = .ok (.bipush 32, 2) := by decide +kernel
theorem dX11_init_197 : decode cX11_init 197 = .ok (.invokestatic 79, 3) := by decide +kernel
theorem dX11_init_200 : decode cX11_init 200 = .ok (.putfield 83, 3) := by decide +kernel
theorem dX11_init_203 : decode cX11_init 203 = .ok (.aload_n 0, 1) := by decide +kernel
theorem dX11_init_204 : decode cX11_init 204 = .ok (.bipush 99, 2) := by decide +kernel
theorem dX11_init_206 : decode cX11_init 206 = .ok (.bipush 111, 2) := by decide +kernel
theorem dX11_init_208 : decode cX11_init 208 = .ok (.bipush 112, 2) := by decide +kernel
theorem dX11_init_210 : decode cX11_init 210 = .ok (.bipush 121, 2) := by decide +kernel
theorem dX11_init_212 : decode cX11_init 212 = .ok (.bipush 32, 2) := by decide +kernel
theorem dX11_init_214 : decode cX11_init 214 = .ok (.invokestatic 79, 3) := by decide +kernel
theorem dX11_init_217 : decode cX11_init 217 = .ok (.putfield 87, 3) := by decide +kernel
theorem dX11_init_220 : decode cX11_init 220 = .ok (.aload_n 0, 1) := by decide +kernel
theorem dX11_init_221 : decode cX11_init 221 = .ok (.bipush 116, 2) := by decide +kernel
theorem dX11_init_223 : decode cX11_init 223 = .ok (.bipush 97, 2) := by decide +kernel
theorem dX11_init_225 : decode cX11_init 225 = .ok (.bipush 98, 2) := by decide +kernel
theorem dX11_init_227 : decode cX11_init 227 = .ok (.bipush 108, 2) := by decide +kernel
theorem dX11_init_229 : decode cX11_init 229 = .ok (.bipush 101, 2) := by decide +kernel
theorem dX11_init_231 : decode cX11_init 231 = .ok (.invokestatic 79, 3) := by decide +kernel
theorem dX11_init_234 : decode cX11_init 234 = .ok (.putfield 90, 3) := by decide +kernel
theorem dX11_init_237 : decode cX11_init 237 = .ok (.aload_n 0, 1) := by decide +kernel
theorem dX11_init_238 : decode cX11_init 238 = .ok (.bipush 102, 2) := by decide +kernel
theorem dX11_init_240 : decode cX11_init 240 = .ok (.bipush 114, 2) := by decide +kernel
theorem dX11_init_242 : decode cX11_init 242 = .ok (.bipush 111, 2) := by decide +kernel
theorem dX11_init_244 : decode cX11_init 244 = .ok (.bipush 109, 2) := by decide +kernel
theorem dX11_init_246 : decode cX11_init 246 = .ok (.bipush 32, 2) := by decide +kernel
theorem dX11_init_248 : decode cX11_init 248 = .ok (.invokestatic 79, 3) := by decide +kernel
theorem dX11_init_251 : decode cX11_init 251 = .ok (.putfield 93, 3) := by decide +kernel
theorem dX11_init_254 : decode cX11_init 254 = .ok (.aload_n 0, 1) := by decide +kernel
theorem dX11_init_255 : decode cX11_init 255 = .ok (.bipush 119, 2) := by decide +kernel
theorem dX11_init_257 : decode cX11_init 257 = .ok (.bipush 104, 2) := by decide +kernel
theorem dX11_init_259 : decode cX11_init 259 = .ok (.bipush 101, 2) := by decide +kernel
theorem dX11_init_261 : decode cX11_init 261 = .ok (.bipush 114, 2) := by decide +kernel
theorem dX11_init_263 : decode cX11_init 263 = .ok (.bipush 101, 2) := by decide +kernel
theorem dX11_init_265 : decode cX11_init 265 = .ok (.invokestatic 79, 3) := by decide +kernel
theorem dX11_init_268 : decode cX11_init 268 = .ok (.putfield 96, 3) := by decide +kernel
theorem dX11_init_271 : decode cX11_init 271 = .ok (.aload_n 0, 1) := by decide +kernel
theorem dX11_init_272 : decode cX11_init 272 = .ok (.bipush 108, 2) := by decide +kernel
theorem dX11_init_274 : decode cX11_init 274 = .ok (.bipush 101, 2) := by decide +kernel
theorem dX11_init_276 : decode cX11_init 276 = .ok (.bipush 110, 2) := by decide +kernel
theorem dX11_init_278 : decode cX11_init 278 = .ok (.bipush 32, 2) := by decide +kernel
theorem dX11_init_280 : decode cX11_init 280 = .ok (.bipush 32, 2) := by decide +kernel
theorem dX11_init_282 : decode cX11_init 282 = .ok (.invokestatic 79, 3) := by decide +kernel
theorem dX11_init_285 : decode cX11_init 285 = .ok (.putfield 99, 3) := by decide +kernel
theorem dX11_init_288 : decode cX11_init 288 = .ok (.aload_n 0, 1) := by decide +kernel
theorem dX11_init_289 : decode cX11_init 289 = .ok (.bipush 115, 2) := by decide +kernel
theorem dX11_init_291 : decode cX11_init 291 = .ok (.bipush 116, 2) := by decide +kernel
theorem dX11_init_293 : decode cX11_init 293 = .ok (.bipush 114, 2) := by decide +kernel
theorem dX11_init_295 : decode cX11_init 295 = .ok (.bipush 32, 2) := by decide +kernel
theorem dX11_init_297 : decode cX11_init 297 = .ok (.bipush 32, 2) := by decide +kernel
theorem dX11_init_299 : decode cX11_init 299 = .ok (.invokestatic 79, 3) := by decide +kernel
theorem dX11_init_302 : decode cX11_init 302 = .ok (.putfield 102, 3) := by decide +kernel
theorem dX11_init_305 : decode cX11_init 305 = .ok (.aload_n 0, 1) := by decide +kernel
theorem dX11_init_306 : decode cX11_init 306 = .ok (.iconst 4, 1) := by decide +kernel
theorem dX11_init_307 : decode cX11_init 307 = .ok (.newarray .int, 2) := by decide +kernel
theorem dX11_init_309 : decode cX11_init 309 = .ok (.putfield 105, 3) := by decide +kernel
theorem dX11_init_312 : decode cX11_init 312 = .ok (.aload_n 0, 1) := by decide +kernel
theorem dX11_init_313 : decode cX11_init 313 = .ok (.iconst 3, 1) := by decide +kernel
theorem dX11_init_314 : decode cX11_init 314 = .ok (.newarray .long, 2) := by decide +kernel
theorem dX11_init_316 : decode cX11_init 316 = .ok (.putfield 108, 3) := by decide +kernel
theorem dX11_init_319 : decode cX11_init 319 = .ok (.aload_n 0, 1) := by decide +kernel
theorem dX11_init_320 : decode cX11_init 320 = .ok (.iconst 3, 1) := by decide +kernel
theorem dX11_init_321 : decode cX11_init 321 = .ok (.newarray .int, 2) := by decide +kernel
theorem dX11_init_323 : decode cX11_init 323 = .ok (.putfield 111, 3) := by decide +kernel
theorem dX11_init_326 : decode cX11_init 326 = .ok (.aload_n 0, 1) := by decide +kernel
theorem dX11_init_327 : decode cX11_init 327 = .ok (.iconst 4, 1) := by decide +kernel
theorem dX11_init_328 : decode cX11_init 328 = .ok (.newarray .int, 2) := by decide +kernel
theorem dX11_init_330 : decode cX11_init 330 = .ok (.putfield 114, 3) := by decide +kernel
theorem dX11_init_333 : decode cX11_init 333 = .ok (.aload_n 0, 1) := by decide +kernel
theorem dX11_init_334 : decode cX11_init 334 = .ok (.iconst 4, 1) := by decide +kernel
theorem dX11_init_335 : decode cX11_init 335 = .ok (.newarray .int, 2) := by decide +kernel
theorem dX11_init_337 : decode cX11_init 337 = .ok (.putfield 117, 3) := by decide +kernel
theorem dX11_init_340 : decode cX11_init 340 = .ok (.aload_n 0, 1) := by decide +kernel
theorem dX11_init_341 : decode cX11_init 341 = .ok (.iconst 4, 1) := by decide +kernel
theorem dX11_init_342 : decode cX11_init 342 = .ok (.newarray .int, 2) := by decide +kernel
theorem dX11_init_344 : decode cX11_init 344 = .ok (.putfield 120, 3) := by decide +kernel
theorem dX11_init_347 : decode cX11_init 347 = .ok (.aload_n 0, 1) := by decide +kernel
theorem dX11_init_348 : decode cX11_init 348 = .ok (.iconst 4, 1) := by decide +kernel
theorem dX11_init_349 : decode cX11_init 349 = .ok (.newarray .int, 2) := by decide +kernel
theorem dX11_init_351 : decode cX11_init 351 = .ok (.putfield 123, 3) := by decide +kernel
theorem dX11_init_354 : decode cX11_init 354 = .ok (.aload_n 0, 1) := by decide +kernel
theorem dX11_init_355 : decode cX11_init 355 = .ok (.iconst 4, 1) := by decide +kernel
theorem dX11_init_356 : decode cX11_init 356 = .ok (.newarray .int, 2) := by decide +kernel
theorem dX11_init_358 : decode cX11_init 358 = .ok (.putfield 126, 3) := by decide +kernel
theorem dX11_init_361 : decode cX11_init 361 = .ok (.aload_n 0, 1) := by decide +kernel
theorem dX11_init_362 : decode cX11_init 362 = .ok (.sipush 136, 3) := by decide +kernel
theorem dX11_init_365 : decode cX11_init 365 = .ok (.newarray .int, 2) := by decide +kernel
theorem dX11_init_367 : decode cX11_init 367 = .ok (.putfield 129, 3) := by decide +kernel
theorem dX11_init_370 : decode cX11_init 370 = .ok (.aload_n 0, 1) := by decide +kernel
theorem dX11_init_371 : decode cX11_init 371 = .ok (.bipush 17, 2) := by decide +kernel
theorem dX11_init_373 : decode cX11_init 373 = .ok (.newarray .int, 2) := by decide +kernel
theorem dX11_init_375 : decode cX11_init 375 = .ok (.putfield 132, 3) := by decide +kernel
theorem dX11_init_378 : decode cX11_init 378 = .ok (.aload_n 0, 1) := by decide +kernel
theorem dX11_init_379 : decode cX11_init 379 = .ok (.bipush 17, 2) := by decide +kernel
theorem dX11_init_381 : decode cX11_init 381 = .ok (.newarray .int, 2) := by decide +kernel
theorem dX11_init_383 : decode cX11_init 383 = .ok (.putfield 135, 3) := by decide +kernel
theorem dX11_init_386 : decode cX11_init 386 = .ok (.aload_n 0, 1) := by decide +kernel
theorem dX11_init_387 : decode cX11_init 387 = .ok (.sipush 136, 3) := by decide +kernel
theorem dX11_init_390 : decode cX11_init 390 = .ok (.newarray .boolean, 2) := by decide +kernel
theorem dX11_init_392 : decode cX11_init 392 = .ok (.putfield 138, 3) := by decide +kernel
theorem dX11_init_395 : decode cX11_init 395 = .ok (.aload_n 0, 1) := by decide +kernel
theorem dX11_init_396 : decode cX11_init 396 = .ok (.sipush 140, 3) := by decide +kernel
theorem dX11_init_399 : decode cX11_init 399 = .ok (.newarray .int, 2) := by decide +kernel
theorem dX11_init_401 : decode cX11_init 401 = .ok (.putfield 141, 3) := by decide +kernel
theorem dX11_init_404 : decode cX11_init 404 = .ok (.aload_n 0, 1) := by decide +kernel
theorem dX11_init_405 : decode cX11_init 405 = .ok (.bipush 40, 2) := by decide +kernel
theorem dX11_init_407 : decode cX11_init 407 = .ok (.newarray .int, 2) := by decide +kernel
theorem dX11_init_409 : decode cX11_init 409 = .ok (.putfield 144, 3) := by decide +kernel
theorem dX11_init_412 : decode cX11_init 412 = .ok (.aload_n 0, 1) := by decide +kernel
theorem dX11_init_413 : decode cX11_init 413 = .ok (.bipush 40, 2) := by decide +kernel
theorem dX11_init_415 : decode cX11_init 415 = .ok (.newarray .int, 2) := by decide +kernel
theorem dX11_init_417 : decode cX11_init 417 = .ok (.putfield 147, 3) := by decide +kernel
theorem dX11_init_420 : decode cX11_init 420 = .ok (.aload_n 0, 1) := by decide +kernel
theorem dX11_init_421 : decode cX11_init 421 = .ok (.bipush 40, 2) := by decide +kernel
theorem dX11_init_423 : decode cX11_init 423 = .ok (.newarray .int, 2) := by decide +kernel
theorem dX11_init_425 : decode cX11_init 425 = .ok (.putfield 150, 3) := by decide +kernel
theorem dX11_init_428 : decode cX11_init 428 = .ok (.aload_n 0, 1) := by decide +kernel
theorem dX11_init_429 : decode cX11_init 429 = .ok (.bipush 40, 2) := by decide +kernel
theorem dX11_init_431 : decode cX11_init 431 = .ok (.newarray .int, 2) := by decide +kernel
theorem dX11_init_433 : decode cX11_init 433 = .ok (.putfield 153, 3) := by decide +kernel
theorem dX11_init_436 : decode cX11_init 436 = .ok (.aload_n 0, 1) := by decide +kernel
theorem dX11_init_437 : decode cX11_init 437 = .ok (.sipush 136, 3) := by decide +kernel
theorem dX11_init_440 : decode cX11_init 440 = .ok (.newarray .int, 2) := by decide +kernel
theorem dX11_init_442 : decode cX11_init 442 = .ok (.putfield 156, 3) := by decide +kernel
theorem dX11_init_445 : decode cX11_init 445 = .ok (.return_, 1) := by decide +kernel
theorem dX11_isTable_0 : decode cX11_isTable 0 = .ok (.iload_n 1, 1) := by decide +kernel
theorem dX11_isTable_1 : decode cX11_isTable 1 = .ok (.ifCond .lt 24, 3) := by decide +kernel
theorem dX11_isTable_4 : decode cX11_isTable 4 = .ok (.iload_n 1, 1) := by decide +kernel
theorem dX11_isTable_5 : decode cX11_isTable 5 = .ok (.aload_n 0, 1) := by decide +kernel
theorem dX11_isTable_6 : decode cX11_isTable 6 = .ok (.getfield 159, 3) := by decide +kernel
theorem dX11_isTable_9 : decode cX11_isTable 9 = .ok (.if_icmp .ge 16, 3) := by decide +kernel
theorem dX11_isTable_12 : decode cX11_isTable 12 = .ok (.aload_n 0, 1) := by decide +kernel
theorem dX11_isTable_13 : decode cX11_isTable 13 = .ok (.getfield 7, 3) := by decide +kernel
theorem dX11_isTable_16 : decode cX11_isTable 16 = .ok (.iload_n 1, 1) := by decide +kernel
theorem dX11_isTable_17 : decode cX11_isTable 17 = .ok (.baload, 1) := by decide +kernel
theorem dX11_isTable_18 : decode cX11_isTable 18 = .ok (.ifCond .eq 7, 3) := by decide +kernel
theorem dX11_isTable_21 : decode cX11_isTable 21 = .ok (.iconst 1, 1) := by decide +kernel
theorem dX11_isTable_22 : decode cX11_isTable 22 = .ok (.goto 4, 3) := by decide +kernel
theorem dX11_isTable_25 : decode cX11_isTable 25 = .ok (.iconst 0, 1) := by decide +kernel
theorem dX11_isTable_26 : decode cX11_isTable 26 = .ok (.ireturn, 1) := by decide +kernel
theorem dX11_isColumn_0 : decode cX11_isColumn 0 = .ok (.aload_n 0, 1) := by decide +kernel
theorem dX11_isColumn_1 : decode cX11_isColumn 1 = .ok (.iload_n 1, 1) := by decide +kernel
theorem dX11_isColumn_2 : decode cX11_isColumn 2 = .ok (.invokevirtual 162, 3) := by decide +kernel
theorem dX11_isColumn_5 : decode cX11_isColumn 5 = .ok (.ifCond .eq 21, 3) := by decide +kernel
theorem dX11_isColumn_8 : decode cX11_isColumn 8 = .ok (.iload_n 2, 1) := by decide +kernel
theorem dX11_isColumn_9 : decode cX11_isColumn 9 = .ok (.ifCond .lt 17, 3) := by decide +kernel
theorem dX11_isColumn_12 : decode cX11_isColumn 12 = .ok (.iload_n 2, 1) := by decide +kernel
theorem dX11_isColumn_13 : decode cX11_isColumn 13 = .ok (.aload_n 0, 1) := by decide +kernel
theorem dX11_isColumn_14 : decode cX11_isColumn 14 = .ok (.getfield 21, 3) := by decide +kernel
theorem dX11_isColumn_17 : decode cX11_isColumn 17 = .ok (.iload_n 1, 1) := by decide +kernel
theorem dX11_isColumn_18 : decode cX11_isColumn 18 = .ok (.iaload, 1) := by decide +kernel
theorem dX11_isColumn_19 : decode cX11_isColumn 19 = .ok (.if_icmp .ge 7, 3) := by decide +kernel
theorem dX11_isColumn_22 : decode cX11_isColumn 22 = .ok (.iconst 1, 1) := by decide +kernel
theorem dX11_isColumn_23 : decode cX11_isColumn 23 = .ok (.goto 4, 3) := by decide +kernel
theorem dX11_isColumn_26 : decode cX11_isColumn 26 = .ok (.iconst 0, 1) := by decide +kernel
theorem dX11_isColumn_27 : decode cX11_isColumn 27 = .ok (.ireturn, 1) := by decide +kernel
theorem dX11_feed_0 : decode cX11_feed 0 = .ok (.aload_n 0, 1) := by decide +kernel
theorem dX11_feed_1 : decode cX11_feed 1 = .ok (.getfield 166, 3) := by decide +kernel
theorem dX11_feed_4 : decode cX11_feed 4 = .ok (.bipush 20, 2) := by decide +kernel
theorem dX11_feed_6 : decode cX11_feed 6 = .ok (.iadd, 1) := by decide +kernel
theorem dX11_feed_7 : decode cX11_feed 7 = .ok (.sipush 400, 3) := by decide +kernel
theorem dX11_feed_10 : decode cX11_feed 10 = .ok (.if_icmp .le 5, 3) := by decide +kernel
theorem dX11_feed_13 : decode cX11_feed 13 = .ok (.iconst (-1), 1) := by decide +kernel
theorem dX11_feed_14 : decode cX11_feed 14 = .ok (.ireturn, 1) := by decide +kernel
theorem dX11_feed_15 : decode cX11_feed 15 = .ok (.iconst 0, 1) := by decide +kernel
theorem dX11_feed_16 : decode cX11_feed 16 = .ok (.istore 6, 2) := by decide +kernel
theorem dX11_feed_18 : decode cX11_feed 18 = .ok (.iload 6, 2) := by decide +kernel
theorem dX11_feed_20 : decode cX11_feed 20 = .ok (.bipush 20, 2) := by decide +kernel
theorem dX11_feed_22 : decode cX11_feed 22 = .ok (.if_icmp .ge 92, 3) := by decide +kernel
theorem dX11_feed_25 : decode cX11_feed 25 = .ok (.iload 6, 2) := by decide +kernel
theorem dX11_feed_27 : decode cX11_feed 27 = .ok (.iconst 4, 1) := by decide +kernel
theorem dX11_feed_28 : decode cX11_feed 28 = .ok (.if_icmp .ge 7, 3) := by decide +kernel
theorem dX11_feed_31 : decode cX11_feed 31 = .ok (.iload_n 1, 1) := by decide +kernel
theorem dX11_feed_32 : decode cX11_feed 32 = .ok (.goto 39, 3) := by decide +kernel
theorem dX11_feed_35 : decode cX11_feed 35 = .ok (.iload 6, 2) := by decide +kernel
theorem dX11_feed_37 : decode cX11_feed 37 = .ok (.bipush 8, 2) := by decide +kernel
theorem dX11_feed_39 : decode cX11_feed 39 = .ok (.if_icmp .ge 7, 3) := by decide +kernel
theorem dX11_feed_42 : decode cX11_feed 42 = .ok (.iload_n 2, 1) := by decide +kernel
theorem dX11_feed_43 : decode cX11_feed 43 = .ok (.goto 28, 3) := by decide +kernel
theorem dX11_feed_46 : decode cX11_feed 46 = .ok (.iload 6, 2) := by decide +kernel
theorem dX11_feed_48 : decode cX11_feed 48 = .ok (.bipush 12, 2) := by decide +kernel
theorem dX11_feed_50 : decode cX11_feed 50 = .ok (.if_icmp .ge 7, 3) := by decide +kernel
theorem dX11_feed_53 : decode cX11_feed 53 = .ok (.iload_n 3, 1) := by decide +kernel
theorem dX11_feed_54 : decode cX11_feed 54 = .ok (.goto 17, 3) := by decide +kernel
theorem dX11_feed_57 : decode cX11_feed 57 = .ok (.iload 6, 2) := by decide +kernel
theorem dX11_feed_59 : decode cX11_feed 59 = .ok (.bipush 16, 2) := by decide +kernel
theorem dX11_feed_61 : decode cX11_feed 61 = .ok (.if_icmp .ge 8, 3) := by decide +kernel
theorem dX11_feed_64 : decode cX11_feed 64 = .ok (.iload 4, 2) := by decide +kernel
theorem dX11_feed_66 : decode cX11_feed 66 = .ok (.goto 5, 3) := by decide +kernel
theorem dX11_feed_69 : decode cX11_feed 69 = .ok (.iload 5, 2) := by decide +kernel
theorem dX11_feed_71 : decode cX11_feed 71 = .ok (.istore 7, 2) := by decide +kernel
theorem dX11_feed_73 : decode cX11_feed 73 = .ok (.aload_n 0, 1) := by decide +kernel
theorem dX11_feed_74 : decode cX11_feed 74 = .ok (.getfield 72, 3) := by decide +kernel
theorem dX11_feed_77 : decode cX11_feed 77 = .ok (.aload_n 0, 1) := by decide +kernel
theorem dX11_feed_78 : decode cX11_feed 78 = .ok (.getfield 166, 3) := by decide +kernel
theorem dX11_feed_81 : decode cX11_feed 81 = .ok (.iload 7, 2) := by decide +kernel
theorem dX11_feed_83 : decode cX11_feed 83 = .ok (.bipush 8, 2) := by decide +kernel
theorem dX11_feed_85 : decode cX11_feed 85 = .ok (.iconst 3, 1) := by decide +kernel
theorem dX11_feed_86 : decode cX11_feed 86 = .ok (.iload 6, 2) := by decide +kernel
theorem dX11_feed_88 : decode cX11_feed 88 = .ok (.iconst 4, 1) := by decide +kernel
theorem dX11_feed_89 : decode cX11_feed 89 = .ok (.irem, 1) := by decide +kernel
theorem dX11_feed_90 : decode cX11_feed 90 = .ok (.isub, 1) := by decide +kernel
theorem dX11_feed_91 : decode cX11_feed 91 = .ok (.imul, 1) := by decide +kernel
theorem dX11_feed_92 : decode cX11_feed 92 = .ok (.ishr, 1) := by decide +kernel
theorem dX11_feed_93 : decode cX11_feed 93 = .ok (.sipush 255, 3) := by decide +kernel
theorem dX11_feed_96 : decode cX11_feed 96 = .ok (.iand, 1) := by decide +kernel
theorem dX11_feed_97 : decode cX11_feed 97 = .ok (.iastore, 1) := by decide +kernel
theorem dX11_feed_98 : decode cX11_feed 98 = .ok (.aload_n 0, 1) := by decide +kernel
theorem dX11_feed_99 : decode cX11_feed 99 = .ok (.dup, 1) := by decide +kernel
theorem dX11_feed_100 : decode cX11_feed 100 = .ok (.getfield 166, 3) := by decide +kernel
theorem dX11_feed_103 : decode cX11_feed 103 = .ok (.iconst 1, 1) := by decide +kernel
theorem dX11_feed_104 : decode cX11_feed 104 = .ok (.iadd, 1) := by decide +kernel
theorem dX11_feed_105 : decode cX11_feed 105 = .ok (.putfield 166, 3) := by decide +kernel
theorem dX11_feed_108 : decode cX11_feed 108 = .ok (.iinc 6 1, 3) := by decide +kernel
theorem dX11_feed_111 : decode cX11_feed 111 = .ok (.goto (-93), 3) := by decide +kernel
theorem dX11_feed_114 : decode cX11_feed 114 = .ok (.aload_n 0, 1) := by decide +kernel
theorem dX11_feed_115 : decode cX11_feed 115 = .ok (.getfield 166, 3) := by decide +kernel
theorem dX11_feed_118 : decode cX11_feed 118 = .ok (.ireturn, 1) := by decide +kernel
theorem dX11_end_0 : decode cX11_end 0 = .ok (.iload_n 1, 1) := by decide +kernel
theorem dX11_end_1 : decode cX11_end 1 = .ok (.ifCond .lt 11, 3) := by decide +kernel
theorem dX11_end_4 : decode cX11_end 4 = .ok (.iload_n 1, 1) := by decide +kernel
theorem dX11_end_5 : decode cX11_end 5 = .ok (.aload_n 0, 1) := by decide +kernel
theorem dX11_end_6 : decode cX11_end 6 = .ok (.getfield 166, 3) := by decide +kernel
theorem dX11_end_9 : decode cX11_end 9 = .ok (.if_icmp .le 5, 3) := by decide +kernel
theorem dX11_end_12 : decode cX11_end 12 = .ok (.iconst 0, 1) := by decide +kernel
theorem dX11_end_13 : decode cX11_end 13 = .ok (.ireturn, 1) := by decide +kernel
theorem dX11_end_14 : decode cX11_end 14 = .ok (.aload_n 0, 1) := by decide +kernel
theorem dX11_end_15 : decode cX11_end 15 = .ok (.iload_n 1, 1) := by decide +kernel
theorem dX11_end_16 : decode cX11_end 16 = .ok (.putfield 166, 3) := by decide +kernel
theorem dX11_end_19 : decode cX11_end 19 = .ok (.iconst 1, 1) := by decide +kernel
theorem dX11_end_20 : decode cX11_end 20 = .ok (.ireturn, 1) := by decide +kernel
theorem dX11_isLetter_0 : decode cX11_isLetter 0 = .ok (.iload_n 0, 1) := by decide +kernel
theorem dX11_isLetter_1 : decode cX11_isLetter 1 = .ok (.bipush 97, 2) := by decide +kernel
theorem dX11_isLetter_3 : decode cX11_isLetter 3 = .ok (.if_icmp .lt 13, 3) := by decide +kernel
theorem dX11_isLetter_6 : decode cX11_isLetter 6 = .ok (.iload_n 0, 1) := by decide +kernel
theorem dX11_isLetter_7 : decode cX11_isLetter 7 = .ok (.bipush 122, 2) := by decide +kernel
theorem dX11_isLetter_9 : decode cX11_isLetter 9 = .ok (.if_icmp .gt 7, 3) := by decide +kernel
theorem dX11_isLetter_12 : decode cX11_isLetter 12 = .ok (.iconst 1, 1) := by decide +kernel
theorem dX11_isLetter_13 : decode cX11_isLetter 13 = .ok (.goto 4, 3) := by decide +kernel
theorem dX11_isLetter_16 : decode cX11_isLetter 16 = .ok (.iconst 0, 1) := by decide +kernel
theorem dX11_isLetter_17 : decode cX11_isLetter 17 = .ok (.ireturn, 1) := by decide +kernel
theorem dX11_isDigit_0 : decode cX11_isDigit 0 = .ok (.iload_n 0, 1) := by decide +kernel
theorem dX11_isDigit_1 : decode cX11_isDigit 1 = .ok (.bipush 48, 2) := by decide +kernel
theorem dX11_isDigit_3 : decode cX11_isDigit 3 = .ok (.if_icmp .lt 13, 3) := by decide +kernel
theorem dX11_isDigit_6 : decode cX11_isDigit 6 = .ok (.iload_n 0, 1) := by decide +kernel
theorem dX11_isDigit_7 : decode cX11_isDigit 7 = .ok (.bipush 57, 2) := by decide +kernel
theorem dX11_isDigit_9 : decode cX11_isDigit 9 = .ok (.if_icmp .gt 7, 3) := by decide +kernel
theorem dX11_isDigit_12 : decode cX11_isDigit 12 = .ok (.iconst 1, 1) := by decide +kernel
theorem dX11_isDigit_13 : decode cX11_isDigit 13 = .ok (.goto 4, 3) := by decide +kernel
theorem dX11_isDigit_16 : decode cX11_isDigit 16 = .ok (.iconst 0, 1) := by decide +kernel
theorem dX11_isDigit_17 : decode cX11_isDigit 17 = .ok (.ireturn, 1) := by decide +kernel
theorem dX11_isBlank_0 : decode cX11_isBlank 0 = .ok (.iload_n 0, 1) := by decide +kernel
theorem dX11_isBlank_1 : decode cX11_isBlank 1 = .ok (.bipush 10, 2) := by decide +kernel
theorem dX11_isBlank_3 : decode cX11_isBlank 3 = .ok (.if_icmp .eq 9, 3) := by decide +kernel
theorem dX11_isBlank_6 : decode cX11_isBlank 6 = .ok (.iload_n 0, 1) := by decide +kernel
theorem dX11_isBlank_7 : decode cX11_isBlank 7 = .ok (.bipush 32, 2) := by decide +kernel
theorem dX11_isBlank_9 : decode cX11_isBlank 9 = .ok (.if_icmp .ne 7, 3) := by decide +kernel
theorem dX11_isBlank_12 : decode cX11_isBlank 12 = .ok (.iconst 1, 1) := by decide +kernel
theorem dX11_isBlank_13 : decode cX11_isBlank 13 = .ok (.goto 4, 3) := by decide +kernel
theorem dX11_isBlank_16 : decode cX11_isBlank 16 = .ok (.iconst 0, 1) := by decide +kernel
theorem dX11_isBlank_17 : decode cX11_isBlank 17 = .ok (.ireturn, 1) := by decide +kernel
theorem dX11_fail_0 : decode cX11_fail 0 = .ok (.aload_n 0, 1) := by decide +kernel
theorem dX11_fail_1 : decode cX11_fail 1 = .ok (.getfield 169, 3) := by decide +kernel
theorem dX11_fail_4 : decode cX11_fail 4 = .ok (.ifCond .eq 4, 3) := by decide +kernel
theorem dX11_fail_7 : decode cX11_fail 7 = .ok (.return_, 1) := by decide +kernel
theorem dX11_fail_8 : decode cX11_fail 8 = .ok (.aload_n 0, 1) := by decide +kernel
theorem dX11_fail_9 : decode cX11_fail 9 = .ok (.iload_n 1, 1) := by decide +kernel
theorem dX11_fail_10 : decode cX11_fail 10 = .ok (.putfield 169, 3) := by decide +kernel
theorem dX11_fail_13 : decode cX11_fail 13 = .ok (.aload_n 0, 1) := by decide +kernel
theorem dX11_fail_14 : decode cX11_fail 14 = .ok (.iload_n 2, 1) := by decide +kernel
theorem dX11_fail_15 : decode cX11_fail 15 = .ok (.putfield 172, 3) := by decide +kernel
theorem dX11_fail_18 : decode cX11_fail 18 = .ok (.return_, 1) := by decide +kernel
theorem dX11_wordFrom_0 : decode cX11_wordFrom 0 = .ok (.lconst 0, 1) := by decide +kernel
theorem dX11_wordFrom_1 : decode cX11_wordFrom 1 = .ok (.lstore_n 3, 1) := by decide +kernel
theorem dX11_wordFrom_2 : decode cX11_wordFrom 2 = .ok (.iload_n 1, 1) := by decide +kernel
theorem dX11_wordFrom_3 : decode cX11_wordFrom 3 = .ok (.istore 5, 2) := by decide +kernel
theorem dX11_wordFrom_5 : decode cX11_wordFrom 5 = .ok (.iload 5, 2) := by decide +kernel
theorem dX11_wordFrom_7 : decode cX11_wordFrom 7 = .ok (.iload_n 2, 1) := by decide +kernel
theorem dX11_wordFrom_8 : decode cX11_wordFrom 8 = .ok (.if_icmp .ge 39, 3) := by decide +kernel
theorem dX11_wordFrom_11 : decode cX11_wordFrom 11 = .ok (.iload 5, 2) := by decide +kernel
theorem dX11_wordFrom_13 : decode cX11_wordFrom 13 = .ok (.iload_n 1, 1) := by decide +kernel
theorem dX11_wordFrom_14 : decode cX11_wordFrom 14 = .ok (.bipush 8, 2) := by decide +kernel
theorem dX11_wordFrom_16 : decode cX11_wordFrom 16 = .ok (.iadd, 1) := by decide +kernel
theorem dX11_wordFrom_17 : decode cX11_wordFrom 17 = .ok (.if_icmp .ge 30, 3) := by decide +kernel
theorem dX11_wordFrom_20 : decode cX11_wordFrom 20 = .ok (.ldc2_w 175, 3) := by decide +kernel
theorem dX11_wordFrom_23 : decode cX11_wordFrom 23 = .ok (.lload_n 3, 1) := by decide +kernel
theorem dX11_wordFrom_24 : decode cX11_wordFrom 24 = .ok (.lmul, 1) := by decide +kernel
theorem dX11_wordFrom_25 : decode cX11_wordFrom 25 = .ok (.aload_n 0, 1) := by decide +kernel
theorem dX11_wordFrom_26 : decode cX11_wordFrom 26 = .ok (.getfield 72, 3) := by decide +kernel
theorem dX11_wordFrom_29 : decode cX11_wordFrom 29 = .ok (.iload 5, 2) := by decide +kernel
theorem dX11_wordFrom_31 : decode cX11_wordFrom 31 = .ok (.iaload, 1) := by decide +kernel
theorem dX11_wordFrom_32 : decode cX11_wordFrom 32 = .ok (.i2l, 1) := by decide +kernel
theorem dX11_wordFrom_33 : decode cX11_wordFrom 33 = .ok (.ladd, 1) := by decide +kernel
theorem dX11_wordFrom_34 : decode cX11_wordFrom 34 = .ok (.ldc2_w 177, 3) := by decide +kernel
theorem dX11_wordFrom_37 : decode cX11_wordFrom 37 = .ok (.lsub, 1) := by decide +kernel
theorem dX11_wordFrom_38 : decode cX11_wordFrom 38 = .ok (.lconst 1, 1) := by decide +kernel
theorem dX11_wordFrom_39 : decode cX11_wordFrom 39 = .ok (.ladd, 1) := by decide +kernel
theorem dX11_wordFrom_40 : decode cX11_wordFrom 40 = .ok (.lstore_n 3, 1) := by decide +kernel
theorem dX11_wordFrom_41 : decode cX11_wordFrom 41 = .ok (.iinc 5 1, 3) := by decide +kernel
theorem dX11_wordFrom_44 : decode cX11_wordFrom 44 = .ok (.goto (-39), 3) := by decide +kernel
theorem dX11_wordFrom_47 : decode cX11_wordFrom 47 = .ok (.lload_n 3, 1) := by decide +kernel
theorem dX11_wordFrom_48 : decode cX11_wordFrom 48 = .ok (.lreturn, 1) := by decide +kernel
theorem dX11_next_0 : decode cX11_next 0 = .ok (.aload_n 0, 1) := by decide +kernel
theorem dX11_next_1 : decode cX11_next 1 = .ok (.getfield 179, 3) := by decide +kernel
theorem dX11_next_4 : decode cX11_next 4 = .ok (.aload_n 0, 1) := by decide +kernel
theorem dX11_next_5 : decode cX11_next 5 = .ok (.getfield 182, 3) := by decide +kernel
theorem dX11_next_8 : decode cX11_next 8 = .ok (.if_icmp .ge 31, 3) := by decide +kernel
theorem dX11_next_11 : decode cX11_next 11 = .ok (.aload_n 0, 1) := by decide +kernel
theorem dX11_next_12 : decode cX11_next 12 = .ok (.getfield 72, 3) := by decide +kernel
theorem dX11_next_15 : decode cX11_next 15 = .ok (.aload_n 0, 1) := by decide +kernel
theorem dX11_next_16 : decode cX11_next 16 = .ok (.getfield 179, 3) := by decide +kernel
theorem dX11_next_19 : decode cX11_next 19 = .ok (.iaload, 1) := by decide +kernel
theorem dX11_next_20 : decode cX11_next 20 = .ok (.invokestatic 185, 3) := by decide +kernel
theorem dX11_next_23 : decode cX11_next 23 = .ok (.ifCond .eq 16, 3) := by decide +kernel
theorem dX11_next_26 : decode cX11_next 26 = .ok (.aload_n 0, 1) := by decide +kernel
theorem dX11_next_27 : decode cX11_next 27 = .ok (.dup, 1) := by decide +kernel
theorem dX11_next_28 : decode cX11_next 28 = .ok (.getfield 179, 3) := by decide +kernel
theorem dX11_next_31 : decode cX11_next 31 = .ok (.iconst 1, 1) := by decide +kernel
theorem dX11_next_32 : decode cX11_next 32 = .ok (.iadd, 1) := by decide +kernel
theorem dX11_next_33 : decode cX11_next 33 = .ok (.putfield 179, 3) := by decide +kernel
theorem dX11_next_36 : decode cX11_next 36 = .ok (.goto (-36), 3) := by decide +kernel
theorem dX11_next_39 : decode cX11_next 39 = .ok (.aload_n 0, 1) := by decide +kernel
theorem dX11_next_40 : decode cX11_next 40 = .ok (.aload_n 0, 1) := by decide +kernel
theorem dX11_next_41 : decode cX11_next 41 = .ok (.getfield 179, 3) := by decide +kernel
theorem dX11_next_44 : decode cX11_next 44 = .ok (.putfield 188, 3) := by decide +kernel
theorem dX11_next_47 : decode cX11_next 47 = .ok (.aload_n 0, 1) := by decide +kernel
theorem dX11_next_48 : decode cX11_next 48 = .ok (.iconst (-1), 1) := by decide +kernel
theorem dX11_next_49 : decode cX11_next 49 = .ok (.putfield 191, 3) := by decide +kernel
theorem dX11_next_52 : decode cX11_next 52 = .ok (.aload_n 0, 1) := by decide +kernel
theorem dX11_next_53 : decode cX11_next 53 = .ok (.lconst 0, 1) := by decide +kernel
theorem dX11_next_54 : decode cX11_next 54 = .ok (.putfield 194, 3) := by decide +kernel
theorem dX11_next_57 : decode cX11_next 57 = .ok (.aload_n 0, 1) := by decide +kernel
theorem dX11_next_58 : decode cX11_next 58 = .ok (.getfield 179, 3) := by decide +kernel
theorem dX11_next_61 : decode cX11_next 61 = .ok (.aload_n 0, 1) := by decide +kernel
theorem dX11_next_62 : decode cX11_next 62 = .ok (.getfield 182, 3) := by decide +kernel
theorem dX11_next_65 : decode cX11_next 65 = .ok (.if_icmp .ne 11, 3) := by decide +kernel
theorem dX11_next_68 : decode cX11_next 68 = .ok (.aload_n 0, 1) := by decide +kernel
theorem dX11_next_69 : decode cX11_next 69 = .ok (.iconst 0, 1) := by decide +kernel
theorem dX11_next_70 : decode cX11_next 70 = .ok (.putfield 197, 3) := by decide +kernel
theorem dX11_next_73 : decode cX11_next 73 = .ok (.goto 253, 3) := by decide +kernel
theorem dX11_next_76 : decode cX11_next 76 = .ok (.aload_n 0, 1) := by decide +kernel
theorem dX11_next_77 : decode cX11_next 77 = .ok (.getfield 72, 3) := by decide +kernel
theorem dX11_next_80 : decode cX11_next 80 = .ok (.aload_n 0, 1) := by decide +kernel
theorem dX11_next_81 : decode cX11_next 81 = .ok (.getfield 179, 3) := by decide +kernel
theorem dX11_next_84 : decode cX11_next 84 = .ok (.iaload, 1) := by decide +kernel
theorem dX11_next_85 : decode cX11_next 85 = .ok (.invokestatic 200, 3) := by decide +kernel
theorem dX11_next_88 : decode cX11_next 88 = .ok (.ifCond .eq 94, 3) := by decide +kernel
theorem dX11_next_91 : decode cX11_next 91 = .ok (.aload_n 0, 1) := by decide +kernel
theorem dX11_next_92 : decode cX11_next 92 = .ok (.iconst 1, 1) := by decide +kernel
theorem dX11_next_93 : decode cX11_next 93 = .ok (.putfield 197, 3) := by decide +kernel
theorem dX11_next_96 : decode cX11_next 96 = .ok (.aload_n 0, 1) := by decide +kernel
theorem dX11_next_97 : decode cX11_next 97 = .ok (.getfield 179, 3) := by decide +kernel
theorem dX11_next_100 : decode cX11_next 100 = .ok (.aload_n 0, 1) := by decide +kernel
theorem dX11_next_101 : decode cX11_next 101 = .ok (.getfield 182, 3) := by decide +kernel
theorem dX11_next_104 : decode cX11_next 104 = .ok (.if_icmp .ge 31, 3) := by decide +kernel
theorem dX11_next_107 : decode cX11_next 107 = .ok (.aload_n 0, 1) := by decide +kernel
theorem dX11_next_108 : decode cX11_next 108 = .ok (.getfield 72, 3) := by decide +kernel
theorem dX11_next_111 : decode cX11_next 111 = .ok (.aload_n 0, 1) := by decide +kernel
theorem dX11_next_112 : decode cX11_next 112 = .ok (.getfield 179, 3) := by decide +kernel
theorem dX11_next_115 : decode cX11_next 115 = .ok (.iaload, 1) := by decide +kernel
theorem dX11_next_116 : decode cX11_next 116 = .ok (.invokestatic 200, 3) := by decide +kernel
theorem dX11_next_119 : decode cX11_next 119 = .ok (.ifCond .eq 16, 3) := by decide +kernel
theorem dX11_next_122 : decode cX11_next 122 = .ok (.aload_n 0, 1) := by decide +kernel
theorem dX11_next_123 : decode cX11_next 123 = .ok (.dup, 1) := by decide +kernel
theorem dX11_next_124 : decode cX11_next 124 = .ok (.getfield 179, 3) := by decide +kernel
theorem dX11_next_127 : decode cX11_next 127 = .ok (.iconst 1, 1) := by decide +kernel
theorem dX11_next_128 : decode cX11_next 128 = .ok (.iadd, 1) := by decide +kernel
theorem dX11_next_129 : decode cX11_next 129 = .ok (.putfield 179, 3) := by decide +kernel
theorem dX11_next_132 : decode cX11_next 132 = .ok (.goto (-36), 3) := by decide +kernel
theorem dX11_next_135 : decode cX11_next 135 = .ok (.aload_n 0, 1) := by decide +kernel
theorem dX11_next_136 : decode cX11_next 136 = .ok (.getfield 179, 3) := by decide +kernel
theorem dX11_next_139 : decode cX11_next 139 = .ok (.aload_n 0, 1) := by decide +kernel
theorem dX11_next_140 : decode cX11_next 140 = .ok (.getfield 188, 3) := by decide +kernel
theorem dX11_next_143 : decode cX11_next 143 = .ok (.isub, 1) := by decide +kernel
theorem dX11_next_144 : decode cX11_next 144 = .ok (.bipush 8, 2) := by decide +kernel
theorem dX11_next_146 : decode cX11_next 146 = .ok (.if_icmp .le 17, 3) := by decide +kernel
theorem dX11_next_149 : decode cX11_next 149 = .ok (.aload_n 0, 1) := by decide +kernel
theorem dX11_next_150 : decode cX11_next 150 = .ok (.aload_n 0, 1) := by decide +kernel
theorem dX11_next_151 : decode cX11_next 151 = .ok (.getfield 188, 3) := by decide +kernel
theorem dX11_next_154 : decode cX11_next 154 = .ok (.bipush 8, 2) := by decide +kernel
theorem dX11_next_156 : decode cX11_next 156 = .ok (.iadd, 1) := by decide +kernel
theorem dX11_next_157 : decode cX11_next 157 = .ok (.putfield 191, 3) := by decide +kernel
theorem dX11_next_160 : decode cX11_next 160 = .ok (.goto 166, 3) := by decide +kernel
theorem dX11_next_163 : decode cX11_next 163 = .ok (.aload_n 0, 1) := by decide +kernel
theorem dX11_next_164 : decode cX11_next 164 = .ok (.aload_n 0, 1) := by decide +kernel
theorem dX11_next_165 : decode cX11_next 165 = .ok (.aload_n 0, 1) := by decide +kernel
theorem dX11_next_166 : decode cX11_next 166 = .ok (.getfield 188, 3) := by decide +kernel
theorem dX11_next_169 : decode cX11_next 169 = .ok (.aload_n 0, 1) := by decide +kernel
theorem dX11_next_170 : decode cX11_next 170 = .ok (.getfield 179, 3) := by decide +kernel
theorem dX11_next_173 : decode cX11_next 173 = .ok (.invokevirtual 203, 3) := by decide +kernel
theorem dX11_next_176 : decode cX11_next 176 = .ok (.putfield 194, 3) := by decide +kernel
theorem dX11_next_179 : decode cX11_next 179 = .ok (.goto 147, 3) := by decide +kernel
theorem dX11_next_182 : decode cX11_next 182 = .ok (.aload_n 0, 1) := by decide +kernel
theorem dX11_next_183 : decode cX11_next 183 = .ok (.getfield 72, 3) := by decide +kernel
theorem dX11_next_186 : decode cX11_next 186 = .ok (.aload_n 0, 1) := by decide +kernel
theorem dX11_next_187 : decode cX11_next 187 = .ok (.getfield 179, 3) := by decide +kernel
theorem dX11_next_190 : decode cX11_next 190 = .ok (.iaload, 1) := by decide +kernel
theorem dX11_next_191 : decode cX11_next 191 = .ok (.invokestatic 207, 3) := by decide +kernel
theorem dX11_next_194 : decode cX11_next 194 = .ok (.ifCond .eq 73, 3) := by decide +kernel
theorem dX11_next_197 : decode cX11_next 197 = .ok (.aload_n 0, 1) := by decide +kernel
theorem dX11_next_198 : decode cX11_next 198 = .ok (.iconst 2, 1) := by decide +kernel
theorem dX11_next_199 : decode cX11_next 199 = .ok (.putfield 197, 3) := by decide +kernel
theorem dX11_next_202 : decode cX11_next 202 = .ok (.aload_n 0, 1) := by decide +kernel
theorem dX11_next_203 : decode cX11_next 203 = .ok (.getfield 179, 3) := by decide +kernel
theorem dX11_next_206 : decode cX11_next 206 = .ok (.aload_n 0, 1) := by decide +kernel
theorem dX11_next_207 : decode cX11_next 207 = .ok (.getfield 182, 3) := by decide +kernel
theorem dX11_next_210 : decode cX11_next 210 = .ok (.if_icmp .ge 31, 3) := by decide +kernel
theorem dX11_next_213 : decode cX11_next 213 = .ok (.aload_n 0, 1) := by decide +kernel
theorem dX11_next_214 : decode cX11_next 214 = .ok (.getfield 72, 3) := by decide +kernel
theorem dX11_next_217 : decode cX11_next 217 = .ok (.aload_n 0, 1) := by decide +kernel
theorem dX11_next_218 : decode cX11_next 218 = .ok (.getfield 179, 3) := by decide +kernel
theorem dX11_next_221 : decode cX11_next 221 = .ok (.iaload, 1) := by decide +kernel
theorem dX11_next_222 : decode cX11_next 222 = .ok (.invokestatic 207, 3) := by decide +kernel
theorem dX11_next_225 : decode cX11_next 225 = .ok (.ifCond .eq 16, 3) := by decide +kernel
theorem dX11_next_228 : decode cX11_next 228 = .ok (.aload_n 0, 1) := by decide +kernel
theorem dX11_next_229 : decode cX11_next 229 = .ok (.dup, 1) := by decide +kernel
theorem dX11_next_230 : decode cX11_next 230 = .ok (.getfield 179, 3) := by decide +kernel
theorem dX11_next_233 : decode cX11_next 233 = .ok (.iconst 1, 1) := by decide +kernel
theorem dX11_next_234 : decode cX11_next 234 = .ok (.iadd, 1) := by decide +kernel
theorem dX11_next_235 : decode cX11_next 235 = .ok (.putfield 179, 3) := by decide +kernel
theorem dX11_next_238 : decode cX11_next 238 = .ok (.goto (-36), 3) := by decide +kernel
theorem dX11_next_241 : decode cX11_next 241 = .ok (.aload_n 0, 1) := by decide +kernel
theorem dX11_next_242 : decode cX11_next 242 = .ok (.getfield 179, 3) := by decide +kernel
theorem dX11_next_245 : decode cX11_next 245 = .ok (.aload_n 0, 1) := by decide +kernel
theorem dX11_next_246 : decode cX11_next 246 = .ok (.getfield 188, 3) := by decide +kernel
theorem dX11_next_249 : decode cX11_next 249 = .ok (.isub, 1) := by decide +kernel
theorem dX11_next_250 : decode cX11_next 250 = .ok (.iconst 4, 1) := by decide +kernel
theorem dX11_next_251 : decode cX11_next 251 = .ok (.if_icmp .le 75, 3) := by decide +kernel
theorem dX11_next_254 : decode cX11_next 254 = .ok (.aload_n 0, 1) := by decide +kernel
theorem dX11_next_255 : decode cX11_next 255 = .ok (.aload_n 0, 1) := by decide +kernel
theorem dX11_next_256 : decode cX11_next 256 = .ok (.getfield 188, 3) := by decide +kernel
theorem dX11_next_259 : decode cX11_next 259 = .ok (.iconst 4, 1) := by decide +kernel
theorem dX11_next_260 : decode cX11_next 260 = .ok (.iadd, 1) := by decide +kernel
theorem dX11_next_261 : decode cX11_next 261 = .ok (.putfield 191, 3) := by decide +kernel
theorem dX11_next_264 : decode cX11_next 264 = .ok (.goto 62, 3) := by decide +kernel
theorem dX11_next_267 : decode cX11_next 267 = .ok (.aload_n 0, 1) := by decide +kernel
theorem dX11_next_268 : decode cX11_next 268 = .ok (.aload_n 0, 1) := by decide +kernel
theorem dX11_next_269 : decode cX11_next 269 = .ok (.getfield 72, 3) := by decide +kernel
theorem dX11_next_272 : decode cX11_next 272 = .ok (.aload_n 0, 1) := by decide +kernel
theorem dX11_next_273 : decode cX11_next 273 = .ok (.getfield 179, 3) := by decide +kernel
theorem dX11_next_276 : decode cX11_next 276 = .ok (.iaload, 1) := by decide +kernel
theorem dX11_next_277 : decode cX11_next 277 = .ok (.bipush 39, 2) := by decide +kernel
theorem dX11_next_279 : decode cX11_next 279 = .ok (.if_icmp .ne 7, 3) := by decide +kernel
theorem dX11_next_282 : decode cX11_next 282 = .ok (.iconst 3, 1) := by decide +kernel
theorem dX11_next_283 : decode cX11_next 283 = .ok (.goto 30, 3) := by decide +kernel
theorem dX11_next_286 : decode cX11_next 286 = .ok (.aload_n 0, 1) := by decide +kernel
theorem dX11_next_287 : decode cX11_next 287 = .ok (.getfield 72, 3) := by decide +kernel
theorem dX11_next_290 : decode cX11_next 290 = .ok (.aload_n 0, 1) := by decide +kernel
theorem dX11_next_291 : decode cX11_next 291 = .ok (.getfield 179, 3) := by decide +kernel
theorem dX11_next_294 : decode cX11_next 294 = .ok (.iaload, 1) := by decide +kernel
theorem dX11_next_295 : decode cX11_next 295 = .ok (.bipush 32, 2) := by decide +kernel
theorem dX11_next_297 : decode cX11_next 297 = .ok (.if_icmp .ge 7, 3) := by decide +kernel
theorem dX11_next_300 : decode cX11_next 300 = .ok (.iconst (-1), 1) := by decide +kernel
theorem dX11_next_301 : decode cX11_next 301 = .ok (.goto 12, 3) := by decide +kernel
theorem dX11_next_304 : decode cX11_next 304 = .ok (.aload_n 0, 1) := by decide +kernel
theorem dX11_next_305 : decode cX11_next 305 = .ok (.getfield 72, 3) := by decide +kernel
theorem dX11_next_308 : decode cX11_next 308 = .ok (.aload_n 0, 1) := by decide +kernel
theorem dX11_next_309 : decode cX11_next 309 = .ok (.getfield 179, 3) := by decide +kernel
theorem dX11_next_312 : decode cX11_next 312 = .ok (.iaload, 1) := by decide +kernel
theorem dX11_next_313 : decode cX11_next 313 = .ok (.putfield 197, 3) := by decide +kernel
theorem dX11_next_316 : decode cX11_next 316 = .ok (.aload_n 0, 1) := by decide +kernel
theorem dX11_next_317 : decode cX11_next 317 = .ok (.dup, 1) := by decide +kernel
theorem dX11_next_318 : decode cX11_next 318 = .ok (.getfield 179, 3) := by decide +kernel
theorem dX11_next_321 : decode cX11_next 321 = .ok (.iconst 1, 1) := by decide +kernel
theorem dX11_next_322 : decode cX11_next 322 = .ok (.iadd, 1) := by decide +kernel
theorem dX11_next_323 : decode cX11_next 323 = .ok (.putfield 179, 3) := by decide +kernel
theorem dX11_next_326 : decode cX11_next 326 = .ok (.return_, 1) := by decide +kernel
theorem dX11_keeps_0 : decode cX11_keeps 0 = .ok (.sipush 400, 3) := by decide +kernel
theorem dX11_keeps_3 : decode cX11_keeps 3 = .ok (.aload_n 0, 1) := by decide +kernel
theorem dX11_keeps_4 : decode cX11_keeps 4 = .ok (.getfield 159, 3) := by decide +kernel
theorem dX11_keeps_7 : decode cX11_keeps 7 = .ok (.imul, 1) := by decide +kernel
theorem dX11_keeps_8 : decode cX11_keeps 8 = .ok (.aload_n 0, 1) := by decide +kernel
theorem dX11_keeps_9 : decode cX11_keeps 9 = .ok (.getfield 48, 3) := by decide +kernel
theorem dX11_keeps_12 : decode cX11_keeps 12 = .ok (.aload_n 0, 1) := by decide +kernel
theorem dX11_keeps_13 : decode cX11_keeps 13 = .ok (.getfield 159, 3) := by decide +kernel
theorem dX11_keeps_16 : decode cX11_keeps 16 = .ok (.iaload, 1) := by decide +kernel
theorem dX11_keeps_17 : decode cX11_keeps 17 = .ok (.iadd, 1) := by decide +kernel
theorem dX11_keeps_18 : decode cX11_keeps 18 = .ok (.istore_n 1, 1) := by decide +kernel
theorem dX11_keeps_19 : decode cX11_keeps 19 = .ok (.aload_n 0, 1) := by decide +kernel
theorem dX11_keeps_20 : decode cX11_keeps 20 = .ok (.getfield 51, 3) := by decide +kernel
theorem dX11_keeps_23 : decode cX11_keeps 23 = .ok (.iload_n 1, 1) := by decide +kernel
theorem dX11_keeps_24 : decode cX11_keeps 24 = .ok (.aload_n 0, 1) := by decide +kernel
theorem dX11_keeps_25 : decode cX11_keeps 25 = .ok (.getfield 197, 3) := by decide +kernel
theorem dX11_keeps_28 : decode cX11_keeps 28 = .ok (.iastore, 1) := by decide +kernel
theorem dX11_keeps_29 : decode cX11_keeps 29 = .ok (.aload_n 0, 1) := by decide +kernel
theorem dX11_keeps_30 : decode cX11_keeps 30 = .ok (.getfield 54, 3) := by decide +kernel
theorem dX11_keeps_33 : decode cX11_keeps 33 = .ok (.iload_n 1, 1) := by decide +kernel
theorem dX11_keeps_34 : decode cX11_keeps 34 = .ok (.aload_n 0, 1) := by decide +kernel
theorem dX11_keeps_35 : decode cX11_keeps 35 = .ok (.getfield 188, 3) := by decide +kernel
theorem dX11_keeps_38 : decode cX11_keeps 38 = .ok (.iastore, 1) := by decide +kernel
theorem dX11_keeps_39 : decode cX11_keeps 39 = .ok (.aload_n 0, 1) := by decide +kernel
theorem dX11_keeps_40 : decode cX11_keeps 40 = .ok (.getfield 57, 3) := by decide +kernel
theorem dX11_keeps_43 : decode cX11_keeps 43 = .ok (.iload_n 1, 1) := by decide +kernel
theorem dX11_keeps_44 : decode cX11_keeps 44 = .ok (.aload_n 0, 1) := by decide +kernel
theorem dX11_keeps_45 : decode cX11_keeps 45 = .ok (.getfield 179, 3) := by decide +kernel
theorem dX11_keeps_48 : decode cX11_keeps 48 = .ok (.aload_n 0, 1) := by decide +kernel
theorem dX11_keeps_49 : decode cX11_keeps 49 = .ok (.getfield 188, 3) := by decide +kernel
theorem dX11_keeps_52 : decode cX11_keeps 52 = .ok (.isub, 1) := by decide +kernel
theorem dX11_keeps_53 : decode cX11_keeps 53 = .ok (.iastore, 1) := by decide +kernel
theorem dX11_keeps_54 : decode cX11_keeps 54 = .ok (.aload_n 0, 1) := by decide +kernel
theorem dX11_keeps_55 : decode cX11_keeps 55 = .ok (.getfield 48, 3) := by decide +kernel
theorem dX11_keeps_58 : decode cX11_keeps 58 = .ok (.aload_n 0, 1) := by decide +kernel
theorem dX11_keeps_59 : decode cX11_keeps 59 = .ok (.getfield 159, 3) := by decide +kernel
theorem dX11_keeps_62 : decode cX11_keeps 62 = .ok (.dup2, 1) := by decide +kernel
theorem dX11_keeps_63 : decode cX11_keeps 63 = .ok (.iaload, 1) := by decide +kernel
theorem dX11_keeps_64 : decode cX11_keeps 64 = .ok (.iconst 1, 1) := by decide +kernel
theorem dX11_keeps_65 : decode cX11_keeps 65 = .ok (.iadd, 1) := by decide +kernel
theorem dX11_keeps_66 : decode cX11_keeps 66 = .ok (.iastore, 1) := by decide +kernel
theorem dX11_keeps_67 : decode cX11_keeps 67 = .ok (.aload_n 0, 1) := by decide +kernel
theorem dX11_keeps_68 : decode cX11_keeps 68 = .ok (.invokevirtual 210, 3) := by decide +kernel
theorem dX11_keeps_71 : decode cX11_keeps 71 = .ok (.return_, 1) := by decide +kernel
theorem dX11_named_0 : decode cX11_named 0 = .ok (.lconst 0, 1) := by decide +kernel
theorem dX11_named_1 : decode cX11_named 1 = .ok (.lstore 5, 2) := by decide +kernel
theorem dX11_named_3 : decode cX11_named 3 = .ok (.iconst 0, 1) := by decide +kernel
theorem dX11_named_4 : decode cX11_named 4 = .ok (.istore 7, 2) := by decide +kernel
theorem dX11_named_6 : decode cX11_named 6 = .ok (.iload 7, 2) := by decide +kernel
theorem dX11_named_8 : decode cX11_named 8 = .ok (.iconst 5, 1) := by decide +kernel
theorem dX11_named_9 : decode cX11_named 9 = .ok (.if_icmp .ge 77, 3) := by decide +kernel
theorem dX11_named_12 : decode cX11_named 12 = .ok (.iload 7, 2) := by decide +kernel
theorem dX11_named_14 : decode cX11_named 14 = .ok (.ifCond .ne 7, 3) := by decide +kernel
theorem dX11_named_17 : decode cX11_named 17 = .ok (.iload_n 0, 1) := by decide +kernel
theorem dX11_named_18 : decode cX11_named 18 = .ok (.goto 35, 3) := by decide +kernel
theorem dX11_named_21 : decode cX11_named 21 = .ok (.iload 7, 2) := by decide +kernel
theorem dX11_named_23 : decode cX11_named 23 = .ok (.iconst 1, 1) := by decide +kernel
theorem dX11_named_24 : decode cX11_named 24 = .ok (.if_icmp .ne 7, 3) := by decide +kernel
theorem dX11_named_27 : decode cX11_named 27 = .ok (.iload_n 1, 1) := by decide +kernel
theorem dX11_named_28 : decode cX11_named 28 = .ok (.goto 25, 3) := by decide +kernel
theorem dX11_named_31 : decode cX11_named 31 = .ok (.iload 7, 2) := by decide +kernel
theorem dX11_named_33 : decode cX11_named 33 = .ok (.iconst 2, 1) := by decide +kernel
theorem dX11_named_34 : decode cX11_named 34 = .ok (.if_icmp .ne 7, 3) := by decide +kernel
theorem dX11_named_37 : decode cX11_named 37 = .ok (.iload_n 2, 1) := by decide +kernel
theorem dX11_named_38 : decode cX11_named 38 = .ok (.goto 15, 3) := by decide +kernel
theorem dX11_named_41 : decode cX11_named 41 = .ok (.iload 7, 2) := by decide +kernel
theorem dX11_named_43 : decode cX11_named 43 = .ok (.iconst 3, 1) := by decide +kernel
theorem dX11_named_44 : decode cX11_named 44 = .ok (.if_icmp .ne 7, 3) := by decide +kernel
theorem dX11_named_47 : decode cX11_named 47 = .ok (.iload_n 3, 1) := by decide +kernel
theorem dX11_named_48 : decode cX11_named 48 = .ok (.goto 5, 3) := by decide +kernel
theorem dX11_named_51 : decode cX11_named 51 = .ok (.iload 4, 2) := by decide +kernel
theorem dX11_named_53 : decode cX11_named 53 = .ok (.istore 8, 2) := by decide +kernel
theorem dX11_named_55 : decode cX11_named 55 = .ok (.iload 8, 2) := by decide +kernel
theorem dX11_named_57 : decode cX11_named 57 = .ok (.bipush 32, 2) := by decide +kernel
theorem dX11_named_59 : decode cX11_named 59 = .ok (.if_icmp .eq 21, 3) := by decide +kernel
theorem dX11_named_62 : decode cX11_named 62 = .ok (.ldc2_w 175, 3) := by decide +kernel
theorem dX11_named_65 : decode cX11_named 65 = .ok (.lload 5, 2) := by decide +kernel
theorem dX11_named_67 : decode cX11_named 67 = .ok (.lmul, 1) := by decide +kernel
theorem dX11_named_68 : decode cX11_named 68 = .ok (.iload 8, 2) := by decide +kernel
theorem dX11_named_70 : decode cX11_named 70 = .ok (.i2l, 1) := by decide +kernel
theorem dX11_named_71 : decode cX11_named 71 = .ok (.ladd, 1) := by decide +kernel
theorem dX11_named_72 : decode cX11_named 72 = .ok (.ldc2_w 177, 3) := by decide +kernel
theorem dX11_named_75 : decode cX11_named 75 = .ok (.lsub, 1) := by decide +kernel
theorem dX11_named_76 : decode cX11_named 76 = .ok (.lconst 1, 1) := by decide +kernel
theorem dX11_named_77 : decode cX11_named 77 = .ok (.ladd, 1) := by decide +kernel
theorem dX11_named_78 : decode cX11_named 78 = .ok (.lstore 5, 2) := by decide +kernel
theorem dX11_named_80 : decode cX11_named 80 = .ok (.iinc 7 1, 3) := by decide +kernel
theorem dX11_named_83 : decode cX11_named 83 = .ok (.goto (-77), 3) := by decide +kernel
theorem dX11_named_86 : decode cX11_named 86 = .ok (.lload 5, 2) := by decide +kernel
theorem dX11_named_88 : decode cX11_named 88 = .ok (.lreturn, 1) := by decide +kernel
theorem dX11_isWord_0 : decode cX11_isWord 0 = .ok (.aload_n 0, 1) := by decide +kernel
theorem dX11_isWord_1 : decode cX11_isWord 1 = .ok (.getfield 197, 3) := by decide +kernel
theorem dX11_isWord_4 : decode cX11_isWord 4 = .ok (.iconst 1, 1) := by decide +kernel
theorem dX11_isWord_5 : decode cX11_isWord 5 = .ok (.if_icmp .ne 16, 3) := by decide +kernel
theorem dX11_isWord_8 : decode cX11_isWord 8 = .ok (.aload_n 0, 1) := by decide +kernel
theorem dX11_isWord_9 : decode cX11_isWord 9 = .ok (.getfield 194, 3) := by decide +kernel
theorem dX11_isWord_12 : decode cX11_isWord 12 = .ok (.lload_n 1, 1) := by decide +kernel
theorem dX11_isWord_13 : decode cX11_isWord 13 = .ok (.lcmp, 1) := by decide +kernel
theorem dX11_isWord_14 : decode cX11_isWord 14 = .ok (.ifCond .ne 7, 3) := by decide +kernel
theorem dX11_isWord_17 : decode cX11_isWord 17 = .ok (.iconst 1, 1) := by decide +kernel
theorem dX11_isWord_18 : decode cX11_isWord 18 = .ok (.goto 4, 3) := by decide +kernel
theorem dX11_isWord_21 : decode cX11_isWord 21 = .ok (.iconst 0, 1) := by decide +kernel
theorem dX11_isWord_22 : decode cX11_isWord 22 = .ok (.ireturn, 1) := by decide +kernel
theorem dX11_isName_0 : decode cX11_isName 0 = .ok (.aload_n 0, 1) := by decide +kernel
theorem dX11_isName_1 : decode cX11_isName 1 = .ok (.getfield 197, 3) := by decide +kernel
theorem dX11_isName_4 : decode cX11_isName 4 = .ok (.iconst 1, 1) := by decide +kernel
theorem dX11_isName_5 : decode cX11_isName 5 = .ok (.if_icmp .ne 99, 3) := by decide +kernel
theorem dX11_isName_8 : decode cX11_isName 8 = .ok (.aload_n 0, 1) := by decide +kernel
theorem dX11_isName_9 : decode cX11_isName 9 = .ok (.getfield 191, 3) := by decide +kernel
theorem dX11_isName_12 : decode cX11_isName 12 = .ok (.iconst (-1), 1) := by decide +kernel
theorem dX11_isName_13 : decode cX11_isName 13 = .ok (.if_icmp .ne 91, 3) := by decide +kernel
theorem dX11_isName_16 : decode cX11_isName 16 = .ok (.aload_n 0, 1) := by decide +kernel
theorem dX11_isName_17 : decode cX11_isName 17 = .ok (.getfield 194, 3) := by decide +kernel
theorem dX11_isName_20 : decode cX11_isName 20 = .ok (.aload_n 0, 1) := by decide +kernel
theorem dX11_isName_21 : decode cX11_isName 21 = .ok (.getfield 83, 3) := by decide +kernel
theorem dX11_isName_24 : decode cX11_isName 24 = .ok (.lcmp, 1) := by decide +kernel
theorem dX11_isName_25 : decode cX11_isName 25 = .ok (.ifCond .eq 79, 3) := by decide +kernel
theorem dX11_isName_28 : decode cX11_isName 28 = .ok (.aload_n 0, 1) := by decide +kernel
theorem dX11_isName_29 : decode cX11_isName 29 = .ok (.getfield 194, 3) := by decide +kernel
theorem dX11_isName_32 : decode cX11_isName 32 = .ok (.aload_n 0, 1) := by decide +kernel
theorem dX11_isName_33 : decode cX11_isName 33 = .ok (.getfield 87, 3) := by decide +kernel
theorem dX11_isName_36 : decode cX11_isName 36 = .ok (.lcmp, 1) := by decide +kernel
theorem dX11_isName_37 : decode cX11_isName 37 = .ok (.ifCond .eq 67, 3) := by decide +kernel
theorem dX11_isName_40 : decode cX11_isName 40 = .ok (.aload_n 0, 1) := by decide +kernel
theorem dX11_isName_41 : decode cX11_isName 41 = .ok (.getfield 194, 3) := by decide +kernel
theorem dX11_isName_44 : decode cX11_isName 44 = .ok (.aload_n 0, 1) := by decide +kernel
theorem dX11_isName_45 : decode cX11_isName 45 = .ok (.getfield 90, 3) := by decide +kernel
theorem dX11_isName_48 : decode cX11_isName 48 = .ok (.lcmp, 1) := by decide +kernel
theorem dX11_isName_49 : decode cX11_isName 49 = .ok (.ifCond .eq 55, 3) := by decide +kernel
theorem dX11_isName_52 : decode cX11_isName 52 = .ok (.aload_n 0, 1) := by decide +kernel
theorem dX11_isName_53 : decode cX11_isName 53 = .ok (.getfield 194, 3) := by decide +kernel
theorem dX11_isName_56 : decode cX11_isName 56 = .ok (.aload_n 0, 1) := by decide +kernel
theorem dX11_isName_57 : decode cX11_isName 57 = .ok (.getfield 93, 3) := by decide +kernel
theorem dX11_isName_60 : decode cX11_isName 60 = .ok (.lcmp, 1) := by decide +kernel
theorem dX11_isName_61 : decode cX11_isName 61 = .ok (.ifCond .eq 43, 3) := by decide +kernel
theorem dX11_isName_64 : decode cX11_isName 64 = .ok (.aload_n 0, 1) := by decide +kernel
theorem dX11_isName_65 : decode cX11_isName 65 = .ok (.getfield 194, 3) := by decide +kernel
theorem dX11_isName_68 : decode cX11_isName 68 = .ok (.aload_n 0, 1) := by decide +kernel
theorem dX11_isName_69 : decode cX11_isName 69 = .ok (.getfield 96, 3) := by decide +kernel
theorem dX11_isName_72 : decode cX11_isName 72 = .ok (.lcmp, 1) := by decide +kernel
theorem dX11_isName_73 : decode cX11_isName 73 = .ok (.ifCond .eq 31, 3) := by decide +kernel
theorem dX11_isName_76 : decode cX11_isName 76 = .ok (.aload_n 0, 1) := by decide +kernel
theorem dX11_isName_77 : decode cX11_isName 77 = .ok (.getfield 194, 3) := by decide +kernel
theorem dX11_isName_80 : decode cX11_isName 80 = .ok (.aload_n 0, 1) := by decide +kernel
theorem dX11_isName_81 : decode cX11_isName 81 = .ok (.getfield 99, 3) := by decide +kernel
theorem dX11_isName_84 : decode cX11_isName 84 = .ok (.lcmp, 1) := by decide +kernel
theorem dX11_isName_85 : decode cX11_isName 85 = .ok (.ifCond .eq 19, 3) := by decide +kernel
theorem dX11_isName_88 : decode cX11_isName 88 = .ok (.aload_n 0, 1) := by decide +kernel
theorem dX11_isName_89 : decode cX11_isName 89 = .ok (.getfield 194, 3) := by decide +kernel
theorem dX11_isName_92 : decode cX11_isName 92 = .ok (.aload_n 0, 1) := by decide +kernel
theorem dX11_isName_93 : decode cX11_isName 93 = .ok (.getfield 102, 3) := by decide +kernel
theorem dX11_isName_96 : decode cX11_isName 96 = .ok (.lcmp, 1) := by decide +kernel
theorem dX11_isName_97 : decode cX11_isName 97 = .ok (.ifCond .eq 7, 3) := by decide +kernel
theorem dX11_isName_100 : decode cX11_isName 100 = .ok (.iconst 1, 1) := by decide +kernel
theorem dX11_isName_101 : decode cX11_isName 101 = .ok (.goto 4, 3) := by decide +kernel
theorem dX11_isName_104 : decode cX11_isName 104 = .ok (.iconst 0, 1) := by decide +kernel
theorem dX11_isName_105 : decode cX11_isName 105 = .ok (.ireturn, 1) := by decide +kernel
theorem dX11_sign_0 : decode cX11_sign 0 = .ok (.aload_n 0, 1) := by decide +kernel
theorem dX11_sign_1 : decode cX11_sign 1 = .ok (.getfield 197, 3) := by decide +kernel
theorem dX11_sign_4 : decode cX11_sign 4 = .ok (.iload_n 1, 1) := by decide +kernel
theorem dX11_sign_5 : decode cX11_sign 5 = .ok (.if_icmp .ne 10, 3) := by decide +kernel
theorem dX11_sign_8 : decode cX11_sign 8 = .ok (.aload_n 0, 1) := by decide +kernel
theorem dX11_sign_9 : decode cX11_sign 9 = .ok (.invokevirtual 213, 3) := by decide +kernel
theorem dX11_sign_12 : decode cX11_sign 12 = .ok (.goto 12, 3) := by decide +kernel
theorem dX11_sign_15 : decode cX11_sign 15 = .ok (.aload_n 0, 1) := by decide +kernel
theorem dX11_sign_16 : decode cX11_sign 16 = .ok (.iconst 1, 1) := by decide +kernel
theorem dX11_sign_17 : decode cX11_sign 17 = .ok (.aload_n 0, 1) := by decide +kernel
theorem dX11_sign_18 : decode cX11_sign 18 = .ok (.getfield 188, 3) := by decide +kernel
theorem dX11_sign_21 : decode cX11_sign 21 = .ok (.invokevirtual 216, 3) := by decide +kernel
theorem dX11_sign_24 : decode cX11_sign 24 = .ok (.return_, 1) := by decide +kernel
theorem dX11_name_0 : decode cX11_name 0 = .ok (.aload_n 0, 1) := by decide +kernel
theorem dX11_name_1 : decode cX11_name 1 = .ok (.getfield 197, 3) := by decide +kernel
theorem dX11_name_4 : decode cX11_name 4 = .ok (.iconst 1, 1) := by decide +kernel
theorem dX11_name_5 : decode cX11_name 5 = .ok (.if_icmp .ne 23, 3) := by decide +kernel
theorem dX11_name_8 : decode cX11_name 8 = .ok (.aload_n 0, 1) := by decide +kernel
theorem dX11_name_9 : decode cX11_name 9 = .ok (.getfield 191, 3) := by decide +kernel
theorem dX11_name_12 : decode cX11_name 12 = .ok (.iconst (-1), 1) := by decide +kernel
theorem dX11_name_13 : decode cX11_name 13 = .ok (.if_icmp .eq 15, 3) := by decide +kernel
theorem dX11_name_16 : decode cX11_name 16 = .ok (.aload_n 0, 1) := by decide +kernel
theorem dX11_name_17 : decode cX11_name 17 = .ok (.iconst 1, 1) := by decide +kernel
theorem dX11_name_18 : decode cX11_name 18 = .ok (.aload_n 0, 1) := by decide +kernel
theorem dX11_name_19 : decode cX11_name 19 = .ok (.getfield 191, 3) := by decide +kernel
theorem dX11_name_22 : decode cX11_name 22 = .ok (.invokevirtual 216, 3) := by decide +kernel
theorem dX11_name_25 : decode cX11_name 25 = .ok (.goto 26, 3) := by decide +kernel
theorem dX11_name_28 : decode cX11_name 28 = .ok (.aload_n 0, 1) := by decide +kernel
theorem dX11_name_29 : decode cX11_name 29 = .ok (.invokevirtual 220, 3) := by decide +kernel
theorem dX11_name_32 : decode cX11_name 32 = .ok (.ifCond .ne 15, 3) := by decide +kernel
theorem dX11_name_35 : decode cX11_name 35 = .ok (.aload_n 0, 1) := by decide +kernel
theorem dX11_name_36 : decode cX11_name 36 = .ok (.iconst 1, 1) := by decide +kernel
theorem dX11_name_37 : decode cX11_name 37 = .ok (.aload_n 0, 1) := by decide +kernel
theorem dX11_name_38 : decode cX11_name 38 = .ok (.getfield 188, 3) := by decide +kernel
theorem dX11_name_41 : decode cX11_name 41 = .ok (.invokevirtual 216, 3) := by decide +kernel
theorem dX11_name_44 : decode cX11_name 44 = .ok (.goto 7, 3) := by decide +kernel
theorem dX11_name_47 : decode cX11_name 47 = .ok (.aload_n 0, 1) := by decide +kernel
theorem dX11_name_48 : decode cX11_name 48 = .ok (.invokevirtual 213, 3) := by decide +kernel
theorem dX11_name_51 : decode cX11_name 51 = .ok (.return_, 1) := by decide +kernel
theorem dX11_formula_0 : decode cX11_formula 0 = .ok (.aload_n 0, 1) := by decide +kernel
theorem dX11_formula_1 : decode cX11_formula 1 = .ok (.getfield 63, 3) := by decide +kernel
theorem dX11_formula_4 : decode cX11_formula 4 = .ok (.bipush 8, 2) := by decide +kernel
theorem dX11_formula_6 : decode cX11_formula 6 = .ok (.aload_n 0, 1) := by decide +kernel
theorem dX11_formula_7 : decode cX11_formula 7 = .ok (.getfield 159, 3) := by decide +kernel
theorem dX11_formula_10 : decode cX11_formula 10 = .ok (.imul, 1) := by decide +kernel
theorem dX11_formula_11 : decode cX11_formula 11 = .ok (.iload_n 1, 1) := by decide +kernel
theorem dX11_formula_12 : decode cX11_formula 12 = .ok (.iadd, 1) := by decide +kernel
theorem dX11_formula_13 : decode cX11_formula 13 = .ok (.aload_n 0, 1) := by decide +kernel
theorem dX11_formula_14 : decode cX11_formula 14 = .ok (.getfield 48, 3) := by decide +kernel
theorem dX11_formula_17 : decode cX11_formula 17 = .ok (.aload_n 0, 1) := by decide +kernel
theorem dX11_formula_18 : decode cX11_formula 18 = .ok (.getfield 159, 3) := by decide +kernel
theorem dX11_formula_21 : decode cX11_formula 21 = .ok (.iaload, 1) := by decide +kernel
theorem dX11_formula_22 : decode cX11_formula 22 = .ok (.iastore, 1) := by decide +kernel
theorem dX11_formula_23 : decode cX11_formula 23 = .ok (.iconst 0, 1) := by decide +kernel
theorem dX11_formula_24 : decode cX11_formula 24 = .ok (.istore_n 2, 1) := by decide +kernel
theorem dX11_formula_25 : decode cX11_formula 25 = .ok (.aload_n 0, 1) := by decide +kernel
theorem dX11_formula_26 : decode cX11_formula 26 = .ok (.getfield 105, 3) := by decide +kernel
theorem dX11_formula_29 : decode cX11_formula 29 = .ok (.iconst 0, 1) := by decide +kernel
theorem dX11_formula_30 : decode cX11_formula 30 = .ok (.iconst 0, 1) := by decide +kernel
theorem dX11_formula_31 : decode cX11_formula 31 = .ok (.iastore, 1) := by decide +kernel
theorem dX11_formula_32 : decode cX11_formula 32 = .ok (.iconst 1, 1) := by decide +kernel
theorem dX11_formula_33 : decode cX11_formula 33 = .ok (.istore_n 3, 1) := by decide +kernel
theorem dX11_formula_34 : decode cX11_formula 34 = .ok (.aload_n 0, 1) := by decide +kernel
theorem dX11_formula_35 : decode cX11_formula 35 = .ok (.getfield 169, 3) := by decide +kernel
theorem dX11_formula_38 : decode cX11_formula 38 = .ok (.ifCond .ne 214, 3) := by decide +kernel
theorem dX11_formula_41 : decode cX11_formula 41 = .ok (.iload_n 3, 1) := by decide +kernel
theorem dX11_formula_42 : decode cX11_formula 42 = .ok (.ifCond .ne 14, 3) := by decide +kernel
theorem dX11_formula_45 : decode cX11_formula 45 = .ok (.iload_n 2, 1) := by decide +kernel
theorem dX11_formula_46 : decode cX11_formula 46 = .ok (.ifCond .gt 10, 3) := by decide +kernel
theorem dX11_formula_49 : decode cX11_formula 49 = .ok (.aload_n 0, 1) := by decide +kernel
theorem dX11_formula_50 : decode cX11_formula 50 = .ok (.invokevirtual 224, 3) := by decide +kernel
theorem dX11_formula_53 : decode cX11_formula 53 = .ok (.ifCond .eq 199, 3) := by decide +kernel
theorem dX11_formula_56 : decode cX11_formula 56 = .ok (.iload_n 3, 1) := by decide +kernel
theorem dX11_formula_57 : decode cX11_formula 57 = .ok (.ifCond .eq 107, 3) := by decide +kernel
theorem dX11_formula_60 : decode cX11_formula 60 = .ok (.aload_n 0, 1) := by decide +kernel
theorem dX11_formula_61 : decode cX11_formula 61 = .ok (.aload_n 0, 1) := by decide +kernel
theorem dX11_formula_62 : decode cX11_formula 62 = .ok (.getfield 99, 3) := by decide +kernel
theorem dX11_formula_65 : decode cX11_formula 65 = .ok (.invokevirtual 227, 3) := by decide +kernel
theorem dX11_formula_68 : decode cX11_formula 68 = .ok (.ifCond .ne 14, 3) := by decide +kernel
theorem dX11_formula_71 : decode cX11_formula 71 = .ok (.aload_n 0, 1) := by decide +kernel
theorem dX11_formula_72 : decode cX11_formula 72 = .ok (.aload_n 0, 1) := by decide +kernel
theorem dX11_formula_73 : decode cX11_formula 73 = .ok (.getfield 102, 3) := by decide +kernel
theorem dX11_formula_76 : decode cX11_formula 76 = .ok (.invokevirtual 227, 3) := by decide +kernel
theorem dX11_formula_79 : decode cX11_formula 79 = .ok (.ifCond .eq 7, 3) := by decide +kernel
theorem dX11_formula_82 : decode cX11_formula 82 = .ok (.iconst 1, 1) := by decide +kernel
theorem dX11_formula_83 : decode cX11_formula 83 = .ok (.goto 4, 3) := by decide +kernel
theorem dX11_formula_86 : decode cX11_formula 86 = .ok (.iconst 0, 1) := by decide +kernel
theorem dX11_formula_87 : decode cX11_formula 87 = .ok (.istore 4, 2) := by decide +kernel
theorem dX11_formula_89 : decode cX11_formula 89 = .ok (.iload 4, 2) := by decide +kernel
theorem dX11_formula_91 : decode cX11_formula 91 = .ok (.ifCond .eq 64, 3) := by decide +kernel
theorem dX11_formula_94 : decode cX11_formula 94 = .ok (.aload_n 0, 1) := by decide +kernel
theorem dX11_formula_95 : decode cX11_formula 95 = .ok (.invokevirtual 213, 3) := by decide +kernel
theorem dX11_formula_98 : decode cX11_formula 98 = .ok (.aload_n 0, 1) := by decide +kernel
theorem dX11_formula_99 : decode cX11_formula 99 = .ok (.getfield 197, 3) := by decide +kernel
theorem dX11_formula_102 : decode cX11_formula 102 = .ok (.bipush 40, 2) := by decide +kernel
theorem dX11_formula_104 : decode cX11_formula 104 = .ok (.if_icmp .ne 17, 3) := by decide +kernel
theorem dX11_formula_107 : decode cX11_formula 107 = .ok (.iload_n 2, 1) := by decide +kernel
theorem dX11_formula_108 : decode cX11_formula 108 = .ok (.iconst 3, 1) := by decide +kernel
theorem dX11_formula_109 : decode cX11_formula 109 = .ok (.if_icmp .ne 12, 3) := by decide +kernel
theorem dX11_formula_112 : decode cX11_formula 112 = .ok (.aload_n 0, 1) := by decide +kernel
theorem dX11_formula_113 : decode cX11_formula 113 = .ok (.iconst 1, 1) := by decide +kernel
theorem dX11_formula_114 : decode cX11_formula 114 = .ok (.aload_n 0, 1) := by decide +kernel
theorem dX11_formula_115 : decode cX11_formula 115 = .ok (.getfield 188, 3) := by decide +kernel
theorem dX11_formula_118 : decode cX11_formula 118 = .ok (.invokevirtual 216, 3) := by decide +kernel
theorem dX11_formula_121 : decode cX11_formula 121 = .ok (.aload_n 0, 1) := by decide +kernel
theorem dX11_formula_122 : decode cX11_formula 122 = .ok (.getfield 169, 3) := by decide +kernel
theorem dX11_formula_125 : decode cX11_formula 125 = .ok (.ifCond .ne 9, 3) := by decide +kernel
theorem dX11_formula_128 : decode cX11_formula 128 = .ok (.aload_n 0, 1) := by decide +kernel
theorem dX11_formula_129 : decode cX11_formula 129 = .ok (.bipush 40, 2) := by decide +kernel
theorem dX11_formula_131 : decode cX11_formula 131 = .ok (.invokevirtual 231, 3) := by decide +kernel
theorem dX11_formula_134 : decode cX11_formula 134 = .ok (.aload_n 0, 1) := by decide +kernel
theorem dX11_formula_135 : decode cX11_formula 135 = .ok (.getfield 169, 3) := by decide +kernel
theorem dX11_formula_138 : decode cX11_formula 138 = .ok (.ifCond .eq 4, 3) := by decide +kernel
theorem dX11_formula_141 : decode cX11_formula 141 = .ok (.return_, 1) := by decide +kernel
theorem dX11_formula_142 : decode cX11_formula 142 = .ok (.iinc 2 1, 3) := by decide +kernel
theorem dX11_formula_145 : decode cX11_formula 145 = .ok (.aload_n 0, 1) := by decide +kernel
theorem dX11_formula_146 : decode cX11_formula 146 = .ok (.getfield 105, 3) := by decide +kernel
theorem dX11_formula_149 : decode cX11_formula 149 = .ok (.iload_n 2, 1) := by decide +kernel
theorem dX11_formula_150 : decode cX11_formula 150 = .ok (.iconst 0, 1) := by decide +kernel
theorem dX11_formula_151 : decode cX11_formula 151 = .ok (.iastore, 1) := by decide +kernel
theorem dX11_formula_152 : decode cX11_formula 152 = .ok (.goto (-118), 3) := by decide +kernel
theorem dX11_formula_155 : decode cX11_formula 155 = .ok (.aload_n 0, 1) := by decide +kernel
theorem dX11_formula_156 : decode cX11_formula 156 = .ok (.invokevirtual 235, 3) := by decide +kernel
theorem dX11_formula_159 : decode cX11_formula 159 = .ok (.iconst 0, 1) := by decide +kernel
theorem dX11_formula_160 : decode cX11_formula 160 = .ok (.istore_n 3, 1) := by decide +kernel
theorem dX11_formula_161 : decode cX11_formula 161 = .ok (.goto (-127), 3) := by decide +kernel
theorem dX11_formula_164 : decode cX11_formula 164 = .ok (.aload_n 0, 1) := by decide +kernel
theorem dX11_formula_165 : decode cX11_formula 165 = .ok (.invokevirtual 224, 3) := by decide +kernel
theorem dX11_formula_168 : decode cX11_formula 168 = .ok (.ifCond .eq 49, 3) := by decide +kernel
theorem dX11_formula_171 : decode cX11_formula 171 = .ok (.aload_n 0, 1) := by decide +kernel
theorem dX11_formula_172 : decode cX11_formula 172 = .ok (.getfield 105, 3) := by decide +kernel
theorem dX11_formula_175 : decode cX11_formula 175 = .ok (.iload_n 2, 1) := by decide +kernel
theorem dX11_formula_176 : decode cX11_formula 176 = .ok (.dup2, 1) := by decide +kernel
theorem dX11_formula_177 : decode cX11_formula 177 = .ok (.iaload, 1) := by decide +kernel
theorem dX11_formula_178 : decode cX11_formula 178 = .ok (.iconst 1, 1) := by decide +kernel
theorem dX11_formula_179 : decode cX11_formula 179 = .ok (.iadd, 1) := by decide +kernel
theorem dX11_formula_180 : decode cX11_formula 180 = .ok (.iastore, 1) := by decide +kernel
theorem dX11_formula_181 : decode cX11_formula 181 = .ok (.aload_n 0, 1) := by decide +kernel
theorem dX11_formula_182 : decode cX11_formula 182 = .ok (.getfield 105, 3) := by decide +kernel
theorem dX11_formula_185 : decode cX11_formula 185 = .ok (.iload_n 2, 1) := by decide +kernel
theorem dX11_formula_186 : decode cX11_formula 186 = .ok (.iaload, 1) := by decide +kernel
theorem dX11_formula_187 : decode cX11_formula 187 = .ok (.bipush 6, 2) := by decide +kernel
theorem dX11_formula_189 : decode cX11_formula 189 = .ok (.if_icmp .ne 12, 3) := by decide +kernel
theorem dX11_formula_192 : decode cX11_formula 192 = .ok (.aload_n 0, 1) := by decide +kernel
theorem dX11_formula_193 : decode cX11_formula 193 = .ok (.iconst 1, 1) := by decide +kernel
theorem dX11_formula_194 : decode cX11_formula 194 = .ok (.aload_n 0, 1) := by decide +kernel
theorem dX11_formula_195 : decode cX11_formula 195 = .ok (.getfield 188, 3) := by decide +kernel
theorem dX11_formula_198 : decode cX11_formula 198 = .ok (.invokevirtual 216, 3) := by decide +kernel
theorem dX11_formula_201 : decode cX11_formula 201 = .ok (.aload_n 0, 1) := by decide +kernel
theorem dX11_formula_202 : decode cX11_formula 202 = .ok (.getfield 169, 3) := by decide +kernel
theorem dX11_formula_205 : decode cX11_formula 205 = .ok (.ifCond .ne 7, 3) := by decide +kernel
theorem dX11_formula_208 : decode cX11_formula 208 = .ok (.aload_n 0, 1) := by decide +kernel
theorem dX11_formula_209 : decode cX11_formula 209 = .ok (.invokevirtual 213, 3) := by decide +kernel
theorem dX11_formula_212 : decode cX11_formula 212 = .ok (.iconst 1, 1) := by decide +kernel
theorem dX11_formula_213 : decode cX11_formula 213 = .ok (.istore_n 3, 1) := by decide +kernel
theorem dX11_formula_214 : decode cX11_formula 214 = .ok (.goto (-180), 3) := by decide +kernel
theorem dX11_formula_217 : decode cX11_formula 217 = .ok (.aload_n 0, 1) := by decide +kernel
theorem dX11_formula_218 : decode cX11_formula 218 = .ok (.getfield 197, 3) := by decide +kernel
theorem dX11_formula_221 : decode cX11_formula 221 = .ok (.bipush 41, 2) := by decide +kernel
theorem dX11_formula_223 : decode cX11_formula 223 = .ok (.if_icmp .eq 12, 3) := by decide +kernel
theorem dX11_formula_226 : decode cX11_formula 226 = .ok (.aload_n 0, 1) := by decide +kernel
theorem dX11_formula_227 : decode cX11_formula 227 = .ok (.iconst 1, 1) := by decide +kernel
theorem dX11_formula_228 : decode cX11_formula 228 = .ok (.aload_n 0, 1) := by decide +kernel
theorem dX11_formula_229 : decode cX11_formula 229 = .ok (.getfield 188, 3) := by decide +kernel
theorem dX11_formula_232 : decode cX11_formula 232 = .ok (.invokevirtual 216, 3) := by decide +kernel
theorem dX11_formula_235 : decode cX11_formula 235 = .ok (.aload_n 0, 1) := by decide +kernel
theorem dX11_formula_236 : decode cX11_formula 236 = .ok (.getfield 169, 3) := by decide +kernel
theorem dX11_formula_239 : decode cX11_formula 239 = .ok (.ifCond .ne 7, 3) := by decide +kernel
theorem dX11_formula_242 : decode cX11_formula 242 = .ok (.aload_n 0, 1) := by decide +kernel
theorem dX11_formula_243 : decode cX11_formula 243 = .ok (.invokevirtual 213, 3) := by decide +kernel
theorem dX11_formula_246 : decode cX11_formula 246 = .ok (.iinc 2 (-1), 3) := by decide +kernel
theorem dX11_formula_249 : decode cX11_formula 249 = .ok (.goto (-215), 3) := by decide +kernel
theorem dX11_formula_252 : decode cX11_formula 252 = .ok (.aload_n 0, 1) := by decide +kernel
theorem dX11_formula_253 : decode cX11_formula 253 = .ok (.getfield 66, 3) := by decide +kernel
theorem dX11_formula_256 : decode cX11_formula 256 = .ok (.bipush 8, 2) := by decide +kernel
theorem dX11_formula_258 : decode cX11_formula 258 = .ok (.aload_n 0, 1) := by decide +kernel
theorem dX11_formula_259 : decode cX11_formula 259 = .ok (.getfield 159, 3) := by decide +kernel
theorem dX11_formula_262 : decode cX11_formula 262 = .ok (.imul, 1) := by decide +kernel
theorem dX11_formula_263 : decode cX11_formula 263 = .ok (.iload_n 1, 1) := by decide +kernel
theorem dX11_formula_264 : decode cX11_formula 264 = .ok (.iadd, 1) := by decide +kernel
theorem dX11_formula_265 : decode cX11_formula 265 = .ok (.aload_n 0, 1) := by decide +kernel
theorem dX11_formula_266 : decode cX11_formula 266 = .ok (.getfield 48, 3) := by decide +kernel
theorem dX11_formula_269 : decode cX11_formula 269 = .ok (.aload_n 0, 1) := by decide +kernel
theorem dX11_formula_270 : decode cX11_formula 270 = .ok (.getfield 159, 3) := by decide +kernel
theorem dX11_formula_273 : decode cX11_formula 273 = .ok (.iaload, 1) := by decide +kernel
theorem dX11_formula_274 : decode cX11_formula 274 = .ok (.iastore, 1) := by decide +kernel
theorem dX11_formula_275 : decode cX11_formula 275 = .ok (.return_, 1) := by decide +kernel
theorem dX11_isMore_0 : decode cX11_isMore 0 = .ok (.aload_n 0, 1) := by decide +kernel
theorem dX11_isMore_1 : decode cX11_isMore 1 = .ok (.getfield 197, 3) := by decide +kernel
theorem dX11_isMore_4 : decode cX11_isMore 4 = .ok (.bipush 43, 2) := by decide +kernel
theorem dX11_isMore_6 : decode cX11_isMore 6 = .ok (.if_icmp .eq 21, 3) := by decide +kernel
theorem dX11_isMore_9 : decode cX11_isMore 9 = .ok (.aload_n 0, 1) := by decide +kernel
theorem dX11_isMore_10 : decode cX11_isMore 10 = .ok (.getfield 197, 3) := by decide +kernel
theorem dX11_isMore_13 : decode cX11_isMore 13 = .ok (.bipush 45, 2) := by decide +kernel
theorem dX11_isMore_15 : decode cX11_isMore 15 = .ok (.if_icmp .eq 12, 3) := by decide +kernel
theorem dX11_isMore_18 : decode cX11_isMore 18 = .ok (.aload_n 0, 1) := by decide +kernel
theorem dX11_isMore_19 : decode cX11_isMore 19 = .ok (.getfield 197, 3) := by decide +kernel
theorem dX11_isMore_22 : decode cX11_isMore 22 = .ok (.bipush 38, 2) := by decide +kernel
theorem dX11_isMore_24 : decode cX11_isMore 24 = .ok (.if_icmp .ne 7, 3) := by decide +kernel
theorem dX11_isMore_27 : decode cX11_isMore 27 = .ok (.iconst 1, 1) := by decide +kernel
theorem dX11_isMore_28 : decode cX11_isMore 28 = .ok (.goto 4, 3) := by decide +kernel
theorem dX11_isMore_31 : decode cX11_isMore 31 = .ok (.iconst 0, 1) := by decide +kernel
theorem dX11_isMore_32 : decode cX11_isMore 32 = .ok (.ireturn, 1) := by decide +kernel
theorem dX11_term_0 : decode cX11_term 0 = .ok (.aload_n 0, 1) := by decide +kernel
theorem dX11_term_1 : decode cX11_term 1 = .ok (.getfield 197, 3) := by decide +kernel
theorem dX11_term_4 : decode cX11_term 4 = .ok (.iconst 2, 1) := by decide +kernel
theorem dX11_term_5 : decode cX11_term 5 = .ok (.if_icmp .ne 30, 3) := by decide +kernel
theorem dX11_term_8 : decode cX11_term 8 = .ok (.aload_n 0, 1) := by decide +kernel
theorem dX11_term_9 : decode cX11_term 9 = .ok (.getfield 191, 3) := by decide +kernel
theorem dX11_term_12 : decode cX11_term 12 = .ok (.iconst (-1), 1) := by decide +kernel
theorem dX11_term_13 : decode cX11_term 13 = .ok (.if_icmp .eq 15, 3) := by decide +kernel
theorem dX11_term_16 : decode cX11_term 16 = .ok (.aload_n 0, 1) := by decide +kernel
theorem dX11_term_17 : decode cX11_term 17 = .ok (.iconst 1, 1) := by decide +kernel
theorem dX11_term_18 : decode cX11_term 18 = .ok (.aload_n 0, 1) := by decide +kernel
theorem dX11_term_19 : decode cX11_term 19 = .ok (.getfield 191, 3) := by decide +kernel
theorem dX11_term_22 : decode cX11_term 22 = .ok (.invokevirtual 216, 3) := by decide +kernel
theorem dX11_term_25 : decode cX11_term 25 = .ok (.goto 151, 3) := by decide +kernel
theorem dX11_term_28 : decode cX11_term 28 = .ok (.aload_n 0, 1) := by decide +kernel
theorem dX11_term_29 : decode cX11_term 29 = .ok (.invokevirtual 213, 3) := by decide +kernel
theorem dX11_term_32 : decode cX11_term 32 = .ok (.goto 144, 3) := by decide +kernel
theorem dX11_term_35 : decode cX11_term 35 = .ok (.aload_n 0, 1) := by decide +kernel
theorem dX11_term_36 : decode cX11_term 36 = .ok (.getfield 197, 3) := by decide +kernel
theorem dX11_term_39 : decode cX11_term 39 = .ok (.iconst 3, 1) := by decide +kernel
theorem dX11_term_40 : decode cX11_term 40 = .ok (.if_icmp .ne 108, 3) := by decide +kernel
theorem dX11_term_43 : decode cX11_term 43 = .ok (.aload_n 0, 1) := by decide +kernel
theorem dX11_term_44 : decode cX11_term 44 = .ok (.getfield 179, 3) := by decide +kernel
theorem dX11_term_47 : decode cX11_term 47 = .ok (.aload_n 0, 1) := by decide +kernel
theorem dX11_term_48 : decode cX11_term 48 = .ok (.getfield 182, 3) := by decide +kernel
theorem dX11_term_51 : decode cX11_term 51 = .ok (.if_icmp .ge 45, 3) := by decide +kernel
theorem dX11_term_54 : decode cX11_term 54 = .ok (.aload_n 0, 1) := by decide +kernel
theorem dX11_term_55 : decode cX11_term 55 = .ok (.getfield 72, 3) := by decide +kernel
theorem dX11_term_58 : decode cX11_term 58 = .ok (.aload_n 0, 1) := by decide +kernel
theorem dX11_term_59 : decode cX11_term 59 = .ok (.getfield 179, 3) := by decide +kernel
theorem dX11_term_62 : decode cX11_term 62 = .ok (.iaload, 1) := by decide +kernel
theorem dX11_term_63 : decode cX11_term 63 = .ok (.invokestatic 200, 3) := by decide +kernel
theorem dX11_term_66 : decode cX11_term 66 = .ok (.ifCond .ne 17, 3) := by decide +kernel
theorem dX11_term_69 : decode cX11_term 69 = .ok (.aload_n 0, 1) := by decide +kernel
theorem dX11_term_70 : decode cX11_term 70 = .ok (.getfield 72, 3) := by decide +kernel
theorem dX11_term_73 : decode cX11_term 73 = .ok (.aload_n 0, 1) := by decide +kernel
theorem dX11_term_74 : decode cX11_term 74 = .ok (.getfield 179, 3) := by decide +kernel
theorem dX11_term_77 : decode cX11_term 77 = .ok (.iaload, 1) := by decide +kernel
theorem dX11_term_78 : decode cX11_term 78 = .ok (.bipush 32, 2) := by decide +kernel
theorem dX11_term_80 : decode cX11_term 80 = .ok (.if_icmp .ne 16, 3) := by decide +kernel
theorem dX11_term_83 : decode cX11_term 83 = .ok (.aload_n 0, 1) := by decide +kernel
theorem dX11_term_84 : decode cX11_term 84 = .ok (.dup, 1) := by decide +kernel
theorem dX11_term_85 : decode cX11_term 85 = .ok (.getfield 179, 3) := by decide +kernel
theorem dX11_term_88 : decode cX11_term 88 = .ok (.iconst 1, 1) := by decide +kernel
theorem dX11_term_89 : decode cX11_term 89 = .ok (.iadd, 1) := by decide +kernel
theorem dX11_term_90 : decode cX11_term 90 = .ok (.putfield 179, 3) := by decide +kernel
theorem dX11_term_93 : decode cX11_term 93 = .ok (.goto (-50), 3) := by decide +kernel
theorem dX11_term_96 : decode cX11_term 96 = .ok (.aload_n 0, 1) := by decide +kernel
theorem dX11_term_97 : decode cX11_term 97 = .ok (.getfield 179, 3) := by decide +kernel
theorem dX11_term_100 : decode cX11_term 100 = .ok (.aload_n 0, 1) := by decide +kernel
theorem dX11_term_101 : decode cX11_term 101 = .ok (.getfield 182, 3) := by decide +kernel
theorem dX11_term_104 : decode cX11_term 104 = .ok (.if_icmp .eq 17, 3) := by decide +kernel
theorem dX11_term_107 : decode cX11_term 107 = .ok (.aload_n 0, 1) := by decide +kernel
theorem dX11_term_108 : decode cX11_term 108 = .ok (.getfield 72, 3) := by decide +kernel
theorem dX11_term_111 : decode cX11_term 111 = .ok (.aload_n 0, 1) := by decide +kernel
theorem dX11_term_112 : decode cX11_term 112 = .ok (.getfield 179, 3) := by decide +kernel
theorem dX11_term_115 : decode cX11_term 115 = .ok (.iaload, 1) := by decide +kernel
theorem dX11_term_116 : decode cX11_term 116 = .ok (.bipush 39, 2) := by decide +kernel
theorem dX11_term_118 : decode cX11_term 118 = .ok (.if_icmp .eq 13, 3) := by decide +kernel
theorem dX11_term_121 : decode cX11_term 121 = .ok (.aload_n 0, 1) := by decide +kernel
theorem dX11_term_122 : decode cX11_term 122 = .ok (.iconst 1, 1) := by decide +kernel
theorem dX11_term_123 : decode cX11_term 123 = .ok (.aload_n 0, 1) := by decide +kernel
theorem dX11_term_124 : decode cX11_term 124 = .ok (.getfield 179, 3) := by decide +kernel
theorem dX11_term_127 : decode cX11_term 127 = .ok (.invokevirtual 216, 3) := by decide +kernel
theorem dX11_term_130 : decode cX11_term 130 = .ok (.return_, 1) := by decide +kernel
theorem dX11_term_131 : decode cX11_term 131 = .ok (.aload_n 0, 1) := by decide +kernel
theorem dX11_term_132 : decode cX11_term 132 = .ok (.dup, 1) := by decide +kernel
theorem dX11_term_133 : decode cX11_term 133 = .ok (.getfield 179, 3) := by decide +kernel
theorem dX11_term_136 : decode cX11_term 136 = .ok (.iconst 1, 1) := by decide +kernel
theorem dX11_term_137 : decode cX11_term 137 = .ok (.iadd, 1) := by decide +kernel
theorem dX11_term_138 : decode cX11_term 138 = .ok (.putfield 179, 3) := by decide +kernel
theorem dX11_term_141 : decode cX11_term 141 = .ok (.aload_n 0, 1) := by decide +kernel
theorem dX11_term_142 : decode cX11_term 142 = .ok (.invokevirtual 213, 3) := by decide +kernel
theorem dX11_term_145 : decode cX11_term 145 = .ok (.goto 31, 3) := by decide +kernel
theorem dX11_term_148 : decode cX11_term 148 = .ok (.aload_n 0, 1) := by decide +kernel
theorem dX11_term_149 : decode cX11_term 149 = .ok (.invokevirtual 238, 3) := by decide +kernel
theorem dX11_term_152 : decode cX11_term 152 = .ok (.aload_n 0, 1) := by decide +kernel
theorem dX11_term_153 : decode cX11_term 153 = .ok (.getfield 169, 3) := by decide +kernel
theorem dX11_term_156 : decode cX11_term 156 = .ok (.ifCond .ne 9, 3) := by decide +kernel
theorem dX11_term_159 : decode cX11_term 159 = .ok (.aload_n 0, 1) := by decide +kernel
theorem dX11_term_160 : decode cX11_term 160 = .ok (.bipush 46, 2) := by decide +kernel
theorem dX11_term_162 : decode cX11_term 162 = .ok (.invokevirtual 231, 3) := by decide +kernel
theorem dX11_term_165 : decode cX11_term 165 = .ok (.aload_n 0, 1) := by decide +kernel
theorem dX11_term_166 : decode cX11_term 166 = .ok (.getfield 169, 3) := by decide +kernel
theorem dX11_term_169 : decode cX11_term 169 = .ok (.ifCond .ne 7, 3) := by decide +kernel
theorem dX11_term_172 : decode cX11_term 172 = .ok (.aload_n 0, 1) := by decide +kernel
theorem dX11_term_173 : decode cX11_term 173 = .ok (.invokevirtual 238, 3) := by decide +kernel
theorem dX11_term_176 : decode cX11_term 176 = .ok (.return_, 1) := by decide +kernel
theorem dX11_source_0 : decode cX11_source 0 = .ok (.aload_n 0, 1) := by decide +kernel
theorem dX11_source_1 : decode cX11_source 1 = .ok (.bipush 40, 2) := by decide +kernel
theorem dX11_source_3 : decode cX11_source 3 = .ok (.invokevirtual 231, 3) := by decide +kernel
theorem dX11_source_6 : decode cX11_source 6 = .ok (.aload_n 0, 1) := by decide +kernel
theorem dX11_source_7 : decode cX11_source 7 = .ok (.getfield 169, 3) := by decide +kernel
theorem dX11_source_10 : decode cX11_source 10 = .ok (.ifCond .ne 7, 3) := by decide +kernel
theorem dX11_source_13 : decode cX11_source 13 = .ok (.iconst 1, 1) := by decide +kernel
theorem dX11_source_14 : decode cX11_source 14 = .ok (.goto 4, 3) := by decide +kernel
theorem dX11_source_17 : decode cX11_source 17 = .ok (.iconst 0, 1) := by decide +kernel
theorem dX11_source_18 : decode cX11_source 18 = .ok (.istore_n 1, 1) := by decide +kernel
theorem dX11_source_19 : decode cX11_source 19 = .ok (.iload_n 1, 1) := by decide +kernel
theorem dX11_source_20 : decode cX11_source 20 = .ok (.ifCond .eq 227, 3) := by decide +kernel
theorem dX11_source_23 : decode cX11_source 23 = .ok (.aload_n 0, 1) := by decide +kernel
theorem dX11_source_24 : decode cX11_source 24 = .ok (.getfield 21, 3) := by decide +kernel
theorem dX11_source_27 : decode cX11_source 27 = .ok (.aload_n 0, 1) := by decide +kernel
theorem dX11_source_28 : decode cX11_source 28 = .ok (.getfield 159, 3) := by decide +kernel
theorem dX11_source_31 : decode cX11_source 31 = .ok (.iaload, 1) := by decide +kernel
theorem dX11_source_32 : decode cX11_source 32 = .ok (.bipush 6, 2) := by decide +kernel
theorem dX11_source_34 : decode cX11_source 34 = .ok (.if_icmp .ne 12, 3) := by decide +kernel
theorem dX11_source_37 : decode cX11_source 37 = .ok (.aload_n 0, 1) := by decide +kernel
theorem dX11_source_38 : decode cX11_source 38 = .ok (.iconst 1, 1) := by decide +kernel
theorem dX11_source_39 : decode cX11_source 39 = .ok (.aload_n 0, 1) := by decide +kernel
theorem dX11_source_40 : decode cX11_source 40 = .ok (.getfield 188, 3) := by decide +kernel
theorem dX11_source_43 : decode cX11_source 43 = .ok (.invokevirtual 216, 3) := by decide +kernel
theorem dX11_source_46 : decode cX11_source 46 = .ok (.aload_n 0, 1) := by decide +kernel
theorem dX11_source_47 : decode cX11_source 47 = .ok (.getfield 169, 3) := by decide +kernel
theorem dX11_source_50 : decode cX11_source 50 = .ok (.ifCond .ne 33, 3) := by decide +kernel
theorem dX11_source_53 : decode cX11_source 53 = .ok (.aload_n 0, 1) := by decide +kernel
theorem dX11_source_54 : decode cX11_source 54 = .ok (.getfield 24, 3) := by decide +kernel
theorem dX11_source_57 : decode cX11_source 57 = .ok (.bipush 8, 2) := by decide +kernel
theorem dX11_source_59 : decode cX11_source 59 = .ok (.aload_n 0, 1) := by decide +kernel
theorem dX11_source_60 : decode cX11_source 60 = .ok (.getfield 159, 3) := by decide +kernel
theorem dX11_source_63 : decode cX11_source 63 = .ok (.imul, 1) := by decide +kernel
theorem dX11_source_64 : decode cX11_source 64 = .ok (.aload_n 0, 1) := by decide +kernel
theorem dX11_source_65 : decode cX11_source 65 = .ok (.getfield 21, 3) := by decide +kernel
theorem dX11_source_68 : decode cX11_source 68 = .ok (.aload_n 0, 1) := by decide +kernel
theorem dX11_source_69 : decode cX11_source 69 = .ok (.getfield 159, 3) := by decide +kernel
theorem dX11_source_72 : decode cX11_source 72 = .ok (.iaload, 1) := by decide +kernel
theorem dX11_source_73 : decode cX11_source 73 = .ok (.iadd, 1) := by decide +kernel
theorem dX11_source_74 : decode cX11_source 74 = .ok (.aload_n 0, 1) := by decide +kernel
theorem dX11_source_75 : decode cX11_source 75 = .ok (.getfield 194, 3) := by decide +kernel
theorem dX11_source_78 : decode cX11_source 78 = .ok (.lastore, 1) := by decide +kernel
theorem dX11_source_79 : decode cX11_source 79 = .ok (.aload_n 0, 1) := by decide +kernel
theorem dX11_source_80 : decode cX11_source 80 = .ok (.invokevirtual 238, 3) := by decide +kernel
theorem dX11_source_83 : decode cX11_source 83 = .ok (.aload_n 0, 1) := by decide +kernel
theorem dX11_source_84 : decode cX11_source 84 = .ok (.getfield 169, 3) := by decide +kernel
theorem dX11_source_87 : decode cX11_source 87 = .ok (.ifCond .ne 53, 3) := by decide +kernel
theorem dX11_source_90 : decode cX11_source 90 = .ok (.aload_n 0, 1) := by decide +kernel
theorem dX11_source_91 : decode cX11_source 91 = .ok (.getfield 197, 3) := by decide +kernel
theorem dX11_source_94 : decode cX11_source 94 = .ok (.iconst 1, 1) := by decide +kernel
theorem dX11_source_95 : decode cX11_source 95 = .ok (.if_icmp .ne 36, 3) := by decide +kernel
theorem dX11_source_98 : decode cX11_source 98 = .ok (.aload_n 0, 1) := by decide +kernel
theorem dX11_source_99 : decode cX11_source 99 = .ok (.getfield 194, 3) := by decide +kernel
theorem dX11_source_102 : decode cX11_source 102 = .ok (.ldc2_w 240, 3) := by decide +kernel
theorem dX11_source_105 : decode cX11_source 105 = .ok (.lcmp, 1) := by decide +kernel
theorem dX11_source_106 : decode cX11_source 106 = .ok (.ifCond .eq 34, 3) := by decide +kernel
theorem dX11_source_109 : decode cX11_source 109 = .ok (.aload_n 0, 1) := by decide +kernel
theorem dX11_source_110 : decode cX11_source 110 = .ok (.getfield 194, 3) := by decide +kernel
theorem dX11_source_113 : decode cX11_source 113 = .ok (.ldc2_w 242, 3) := by decide +kernel
theorem dX11_source_116 : decode cX11_source 116 = .ok (.lcmp, 1) := by decide +kernel
theorem dX11_source_117 : decode cX11_source 117 = .ok (.ifCond .eq 23, 3) := by decide +kernel
theorem dX11_source_120 : decode cX11_source 120 = .ok (.aload_n 0, 1) := by decide +kernel
theorem dX11_source_121 : decode cX11_source 121 = .ok (.getfield 194, 3) := by decide +kernel
theorem dX11_source_124 : decode cX11_source 124 = .ok (.ldc2_w 244, 3) := by decide +kernel
theorem dX11_source_127 : decode cX11_source 127 = .ok (.lcmp, 1) := by decide +kernel
theorem dX11_source_128 : decode cX11_source 128 = .ok (.ifCond .eq 12, 3) := by decide +kernel
theorem dX11_source_131 : decode cX11_source 131 = .ok (.aload_n 0, 1) := by decide +kernel
theorem dX11_source_132 : decode cX11_source 132 = .ok (.iconst 1, 1) := by decide +kernel
theorem dX11_source_133 : decode cX11_source 133 = .ok (.aload_n 0, 1) := by decide +kernel
theorem dX11_source_134 : decode cX11_source 134 = .ok (.getfield 188, 3) := by decide +kernel
theorem dX11_source_137 : decode cX11_source 137 = .ok (.invokevirtual 216, 3) := by decide +kernel
theorem dX11_source_140 : decode cX11_source 140 = .ok (.aload_n 0, 1) := by decide +kernel
theorem dX11_source_141 : decode cX11_source 141 = .ok (.getfield 169, 3) := by decide +kernel
theorem dX11_source_144 : decode cX11_source 144 = .ok (.ifCond .eq 4, 3) := by decide +kernel
theorem dX11_source_147 : decode cX11_source 147 = .ok (.return_, 1) := by decide +kernel
theorem dX11_source_148 : decode cX11_source 148 = .ok (.aload_n 0, 1) := by decide +kernel
theorem dX11_source_149 : decode cX11_source 149 = .ok (.getfield 27, 3) := by decide +kernel
theorem dX11_source_152 : decode cX11_source 152 = .ok (.bipush 8, 2) := by decide +kernel
theorem dX11_source_154 : decode cX11_source 154 = .ok (.aload_n 0, 1) := by decide +kernel
theorem dX11_source_155 : decode cX11_source 155 = .ok (.getfield 159, 3) := by decide +kernel
theorem dX11_source_158 : decode cX11_source 158 = .ok (.imul, 1) := by decide +kernel
theorem dX11_source_159 : decode cX11_source 159 = .ok (.aload_n 0, 1) := by decide +kernel
theorem dX11_source_160 : decode cX11_source 160 = .ok (.getfield 21, 3) := by decide +kernel
theorem dX11_source_163 : decode cX11_source 163 = .ok (.aload_n 0, 1) := by decide +kernel
theorem dX11_source_164 : decode cX11_source 164 = .ok (.getfield 159, 3) := by decide +kernel
theorem dX11_source_167 : decode cX11_source 167 = .ok (.iaload, 1) := by decide +kernel
theorem dX11_source_168 : decode cX11_source 168 = .ok (.iadd, 1) := by decide +kernel
theorem dX11_source_169 : decode cX11_source 169 = .ok (.aload_n 0, 1) := by decide +kernel
theorem dX11_source_170 : decode cX11_source 170 = .ok (.getfield 194, 3) := by decide +kernel
theorem dX11_source_173 : decode cX11_source 173 = .ok (.ldc2_w 240, 3) := by decide +kernel
theorem dX11_source_176 : decode cX11_source 176 = .ok (.lcmp, 1) := by decide +kernel
theorem dX11_source_177 : decode cX11_source 177 = .ok (.ifCond .ne 8, 3) := by decide +kernel
theorem dX11_source_180 : decode cX11_source 180 = .ok (.bipush 110, 2) := by decide +kernel
theorem dX11_source_182 : decode cX11_source 182 = .ok (.goto 21, 3) := by decide +kernel
theorem dX11_source_185 : decode cX11_source 185 = .ok (.aload_n 0, 1) := by decide +kernel
theorem dX11_source_186 : decode cX11_source 186 = .ok (.getfield 194, 3) := by decide +kernel
theorem dX11_source_189 : decode cX11_source 189 = .ok (.ldc2_w 242, 3) := by decide +kernel
theorem dX11_source_192 : decode cX11_source 192 = .ok (.lcmp, 1) := by decide +kernel
theorem dX11_source_193 : decode cX11_source 193 = .ok (.ifCond .ne 8, 3) := by decide +kernel
theorem dX11_source_196 : decode cX11_source 196 = .ok (.bipush 116, 2) := by decide +kernel
theorem dX11_source_198 : decode cX11_source 198 = .ok (.goto 5, 3) := by decide +kernel
theorem dX11_source_201 : decode cX11_source 201 = .ok (.bipush 100, 2) := by decide +kernel
theorem dX11_source_203 : decode cX11_source 203 = .ok (.iastore, 1) := by decide +kernel
theorem dX11_source_204 : decode cX11_source 204 = .ok (.aload_n 0, 1) := by decide +kernel
theorem dX11_source_205 : decode cX11_source 205 = .ok (.getfield 21, 3) := by decide +kernel
theorem dX11_source_208 : decode cX11_source 208 = .ok (.aload_n 0, 1) := by decide +kernel
theorem dX11_source_209 : decode cX11_source 209 = .ok (.getfield 159, 3) := by decide +kernel
theorem dX11_source_212 : decode cX11_source 212 = .ok (.dup2, 1) := by decide +kernel
theorem dX11_source_213 : decode cX11_source 213 = .ok (.iaload, 1) := by decide +kernel
theorem dX11_source_214 : decode cX11_source 214 = .ok (.iconst 1, 1) := by decide +kernel
theorem dX11_source_215 : decode cX11_source 215 = .ok (.iadd, 1) := by decide +kernel
theorem dX11_source_216 : decode cX11_source 216 = .ok (.iastore, 1) := by decide +kernel
theorem dX11_source_217 : decode cX11_source 217 = .ok (.aload_n 0, 1) := by decide +kernel
theorem dX11_source_218 : decode cX11_source 218 = .ok (.invokevirtual 213, 3) := by decide +kernel
theorem dX11_source_221 : decode cX11_source 221 = .ok (.aload_n 0, 1) := by decide +kernel
theorem dX11_source_222 : decode cX11_source 222 = .ok (.getfield 197, 3) := by decide +kernel
theorem dX11_source_225 : decode cX11_source 225 = .ok (.bipush 44, 2) := by decide +kernel
theorem dX11_source_227 : decode cX11_source 227 = .ok (.if_icmp .ne 7, 3) := by decide +kernel
theorem dX11_source_230 : decode cX11_source 230 = .ok (.iconst 1, 1) := by decide +kernel
theorem dX11_source_231 : decode cX11_source 231 = .ok (.goto 4, 3) := by decide +kernel
theorem dX11_source_234 : decode cX11_source 234 = .ok (.iconst 0, 1) := by decide +kernel
theorem dX11_source_235 : decode cX11_source 235 = .ok (.istore_n 1, 1) := by decide +kernel
theorem dX11_source_236 : decode cX11_source 236 = .ok (.iload_n 1, 1) := by decide +kernel
theorem dX11_source_237 : decode cX11_source 237 = .ok (.ifCond .eq (-218), 3) := by decide +kernel
theorem dX11_source_240 : decode cX11_source 240 = .ok (.aload_n 0, 1) := by decide +kernel
theorem dX11_source_241 : decode cX11_source 241 = .ok (.invokevirtual 213, 3) := by decide +kernel
theorem dX11_source_244 : decode cX11_source 244 = .ok (.goto (-225), 3) := by decide +kernel
theorem dX11_source_247 : decode cX11_source 247 = .ok (.aload_n 0, 1) := by decide +kernel
theorem dX11_source_248 : decode cX11_source 248 = .ok (.bipush 41, 2) := by decide +kernel
theorem dX11_source_250 : decode cX11_source 250 = .ok (.invokevirtual 231, 3) := by decide +kernel
theorem dX11_source_253 : decode cX11_source 253 = .ok (.return_, 1) := by decide +kernel
theorem dX11_select_0 : decode cX11_select 0 = .ok (.aload_n 0, 1) := by decide +kernel
theorem dX11_select_1 : decode cX11_select 1 = .ok (.getfield 69, 3) := by decide +kernel
theorem dX11_select_4 : decode cX11_select 4 = .ok (.aload_n 0, 1) := by decide +kernel
theorem dX11_select_5 : decode cX11_select 5 = .ok (.getfield 159, 3) := by decide +kernel
theorem dX11_select_8 : decode cX11_select 8 = .ok (.aload_n 0, 1) := by decide +kernel
theorem dX11_select_9 : decode cX11_select 9 = .ok (.getfield 48, 3) := by decide +kernel
theorem dX11_select_12 : decode cX11_select 12 = .ok (.aload_n 0, 1) := by decide +kernel
theorem dX11_select_13 : decode cX11_select 13 = .ok (.getfield 159, 3) := by decide +kernel
theorem dX11_select_16 : decode cX11_select 16 = .ok (.iaload, 1) := by decide +kernel
theorem dX11_select_17 : decode cX11_select 17 = .ok (.iastore, 1) := by decide +kernel
theorem dX11_select_18 : decode cX11_select 18 = .ok (.aload_n 0, 1) := by decide +kernel
theorem dX11_select_19 : decode cX11_select 19 = .ok (.bipush 61, 2) := by decide +kernel
theorem dX11_select_21 : decode cX11_select 21 = .ok (.invokevirtual 231, 3) := by decide +kernel
theorem dX11_select_24 : decode cX11_select 24 = .ok (.aload_n 0, 1) := by decide +kernel
theorem dX11_select_25 : decode cX11_select 25 = .ok (.getfield 169, 3) := by decide +kernel
theorem dX11_select_28 : decode cX11_select 28 = .ok (.ifCond .ne 7, 3) := by decide +kernel
theorem dX11_select_31 : decode cX11_select 31 = .ok (.iconst 1, 1) := by decide +kernel
theorem dX11_select_32 : decode cX11_select 32 = .ok (.goto 4, 3) := by decide +kernel
theorem dX11_select_35 : decode cX11_select 35 = .ok (.iconst 0, 1) := by decide +kernel
theorem dX11_select_36 : decode cX11_select 36 = .ok (.istore_n 1, 1) := by decide +kernel
theorem dX11_select_37 : decode cX11_select 37 = .ok (.iload_n 1, 1) := by decide +kernel
theorem dX11_select_38 : decode cX11_select 38 = .ok (.ifCond .eq 143, 3) := by decide +kernel
theorem dX11_select_41 : decode cX11_select 41 = .ok (.aload_n 0, 1) := by decide +kernel
theorem dX11_select_42 : decode cX11_select 42 = .ok (.getfield 21, 3) := by decide +kernel
theorem dX11_select_45 : decode cX11_select 45 = .ok (.aload_n 0, 1) := by decide +kernel
theorem dX11_select_46 : decode cX11_select 46 = .ok (.getfield 159, 3) := by decide +kernel
theorem dX11_select_49 : decode cX11_select 49 = .ok (.iaload, 1) := by decide +kernel
theorem dX11_select_50 : decode cX11_select 50 = .ok (.bipush 6, 2) := by decide +kernel
theorem dX11_select_52 : decode cX11_select 52 = .ok (.if_icmp .ne 12, 3) := by decide +kernel
theorem dX11_select_55 : decode cX11_select 55 = .ok (.aload_n 0, 1) := by decide +kernel
theorem dX11_select_56 : decode cX11_select 56 = .ok (.iconst 1, 1) := by decide +kernel
theorem dX11_select_57 : decode cX11_select 57 = .ok (.aload_n 0, 1) := by decide +kernel
theorem dX11_select_58 : decode cX11_select 58 = .ok (.getfield 188, 3) := by decide +kernel
theorem dX11_select_61 : decode cX11_select 61 = .ok (.invokevirtual 216, 3) := by decide +kernel
theorem dX11_select_64 : decode cX11_select 64 = .ok (.aload_n 0, 1) := by decide +kernel
theorem dX11_select_65 : decode cX11_select 65 = .ok (.getfield 169, 3) := by decide +kernel
theorem dX11_select_68 : decode cX11_select 68 = .ok (.ifCond .ne 33, 3) := by decide +kernel
theorem dX11_select_71 : decode cX11_select 71 = .ok (.aload_n 0, 1) := by decide +kernel
theorem dX11_select_72 : decode cX11_select 72 = .ok (.getfield 24, 3) := by decide +kernel
theorem dX11_select_75 : decode cX11_select 75 = .ok (.bipush 8, 2) := by decide +kernel
theorem dX11_select_77 : decode cX11_select 77 = .ok (.aload_n 0, 1) := by decide +kernel
theorem dX11_select_78 : decode cX11_select 78 = .ok (.getfield 159, 3) := by decide +kernel
theorem dX11_select_81 : decode cX11_select 81 = .ok (.imul, 1) := by decide +kernel
theorem dX11_select_82 : decode cX11_select 82 = .ok (.aload_n 0, 1) := by decide +kernel
theorem dX11_select_83 : decode cX11_select 83 = .ok (.getfield 21, 3) := by decide +kernel
theorem dX11_select_86 : decode cX11_select 86 = .ok (.aload_n 0, 1) := by decide +kernel
theorem dX11_select_87 : decode cX11_select 87 = .ok (.getfield 159, 3) := by decide +kernel
theorem dX11_select_90 : decode cX11_select 90 = .ok (.iaload, 1) := by decide +kernel
theorem dX11_select_91 : decode cX11_select 91 = .ok (.iadd, 1) := by decide +kernel
theorem dX11_select_92 : decode cX11_select 92 = .ok (.aload_n 0, 1) := by decide +kernel
theorem dX11_select_93 : decode cX11_select 93 = .ok (.getfield 194, 3) := by decide +kernel
theorem dX11_select_96 : decode cX11_select 96 = .ok (.lastore, 1) := by decide +kernel
theorem dX11_select_97 : decode cX11_select 97 = .ok (.aload_n 0, 1) := by decide +kernel
theorem dX11_select_98 : decode cX11_select 98 = .ok (.invokevirtual 238, 3) := by decide +kernel
theorem dX11_select_101 : decode cX11_select 101 = .ok (.aload_n 0, 1) := by decide +kernel
theorem dX11_select_102 : decode cX11_select 102 = .ok (.getfield 169, 3) := by decide +kernel
theorem dX11_select_105 : decode cX11_select 105 = .ok (.ifCond .ne 9, 3) := by decide +kernel
theorem dX11_select_108 : decode cX11_select 108 = .ok (.aload_n 0, 1) := by decide +kernel
theorem dX11_select_109 : decode cX11_select 109 = .ok (.bipush 58, 2) := by decide +kernel
theorem dX11_select_111 : decode cX11_select 111 = .ok (.invokevirtual 231, 3) := by decide +kernel
theorem dX11_select_114 : decode cX11_select 114 = .ok (.aload_n 0, 1) := by decide +kernel
theorem dX11_select_115 : decode cX11_select 115 = .ok (.getfield 169, 3) := by decide +kernel
theorem dX11_select_118 : decode cX11_select 118 = .ok (.ifCond .ne 16, 3) := by decide +kernel
theorem dX11_select_121 : decode cX11_select 121 = .ok (.aload_n 0, 1) := by decide +kernel
theorem dX11_select_122 : decode cX11_select 122 = .ok (.aload_n 0, 1) := by decide +kernel
theorem dX11_select_123 : decode cX11_select 123 = .ok (.getfield 21, 3) := by decide +kernel
theorem dX11_select_126 : decode cX11_select 126 = .ok (.aload_n 0, 1) := by decide +kernel
theorem dX11_select_127 : decode cX11_select 127 = .ok (.getfield 159, 3) := by decide +kernel
theorem dX11_select_130 : decode cX11_select 130 = .ok (.iaload, 1) := by decide +kernel
theorem dX11_select_131 : decode cX11_select 131 = .ok (.invokevirtual 246, 3) := by decide +kernel
theorem dX11_select_134 : decode cX11_select 134 = .ok (.aload_n 0, 1) := by decide +kernel
theorem dX11_select_135 : decode cX11_select 135 = .ok (.getfield 169, 3) := by decide +kernel
theorem dX11_select_138 : decode cX11_select 138 = .ok (.ifCond .eq 4, 3) := by decide +kernel
theorem dX11_select_141 : decode cX11_select 141 = .ok (.return_, 1) := by decide +kernel
theorem dX11_select_142 : decode cX11_select 142 = .ok (.aload_n 0, 1) := by decide +kernel
theorem dX11_select_143 : decode cX11_select 143 = .ok (.getfield 21, 3) := by decide +kernel
theorem dX11_select_146 : decode cX11_select 146 = .ok (.aload_n 0, 1) := by decide +kernel
theorem dX11_select_147 : decode cX11_select 147 = .ok (.getfield 159, 3) := by decide +kernel
theorem dX11_select_150 : decode cX11_select 150 = .ok (.dup2, 1) := by decide +kernel
theorem dX11_select_151 : decode cX11_select 151 = .ok (.iaload, 1) := by decide +kernel
theorem dX11_select_152 : decode cX11_select 152 = .ok (.iconst 1, 1) := by decide +kernel
theorem dX11_select_153 : decode cX11_select 153 = .ok (.iadd, 1) := by decide +kernel
theorem dX11_select_154 : decode cX11_select 154 = .ok (.iastore, 1) := by decide +kernel
theorem dX11_select_155 : decode cX11_select 155 = .ok (.aload_n 0, 1) := by decide +kernel
theorem dX11_select_156 : decode cX11_select 156 = .ok (.getfield 197, 3) := by decide +kernel
theorem dX11_select_159 : decode cX11_select 159 = .ok (.bipush 44, 2) := by decide +kernel
theorem dX11_select_161 : decode cX11_select 161 = .ok (.if_icmp .ne 7, 3) := by decide +kernel
theorem dX11_select_164 : decode cX11_select 164 = .ok (.iconst 1, 1) := by decide +kernel
theorem dX11_select_165 : decode cX11_select 165 = .ok (.goto 4, 3) := by decide +kernel
theorem dX11_select_168 : decode cX11_select 168 = .ok (.iconst 0, 1) := by decide +kernel
theorem dX11_select_169 : decode cX11_select 169 = .ok (.istore_n 1, 1) := by decide +kernel
theorem dX11_select_170 : decode cX11_select 170 = .ok (.iload_n 1, 1) := by decide +kernel
theorem dX11_select_171 : decode cX11_select 171 = .ok (.ifCond .eq (-134), 3) := by decide +kernel
theorem dX11_select_174 : decode cX11_select 174 = .ok (.aload_n 0, 1) := by decide +kernel
theorem dX11_select_175 : decode cX11_select 175 = .ok (.invokevirtual 213, 3) := by decide +kernel
theorem dX11_select_178 : decode cX11_select 178 = .ok (.goto (-141), 3) := by decide +kernel
theorem dX11_select_181 : decode cX11_select 181 = .ok (.aload_n 0, 1) := by decide +kernel
theorem dX11_select_182 : decode cX11_select 182 = .ok (.getfield 169, 3) := by decide +kernel
theorem dX11_select_185 : decode cX11_select 185 = .ok (.ifCond .ne 23, 3) := by decide +kernel
theorem dX11_select_188 : decode cX11_select 188 = .ok (.aload_n 0, 1) := by decide +kernel
theorem dX11_select_189 : decode cX11_select 189 = .ok (.aload_n 0, 1) := by decide +kernel
theorem dX11_select_190 : decode cX11_select 190 = .ok (.getfield 93, 3) := by decide +kernel
theorem dX11_select_193 : decode cX11_select 193 = .ok (.invokevirtual 227, 3) := by decide +kernel
theorem dX11_select_196 : decode cX11_select 196 = .ok (.ifCond .ne 12, 3) := by decide +kernel
theorem dX11_select_199 : decode cX11_select 199 = .ok (.aload_n 0, 1) := by decide +kernel
theorem dX11_select_200 : decode cX11_select 200 = .ok (.iconst 1, 1) := by decide +kernel
theorem dX11_select_201 : decode cX11_select 201 = .ok (.aload_n 0, 1) := by decide +kernel
theorem dX11_select_202 : decode cX11_select 202 = .ok (.getfield 188, 3) := by decide +kernel
theorem dX11_select_205 : decode cX11_select 205 = .ok (.invokevirtual 216, 3) := by decide +kernel
theorem dX11_select_208 : decode cX11_select 208 = .ok (.aload_n 0, 1) := by decide +kernel
theorem dX11_select_209 : decode cX11_select 209 = .ok (.getfield 169, 3) := by decide +kernel
theorem dX11_select_212 : decode cX11_select 212 = .ok (.ifCond .eq 4, 3) := by decide +kernel
theorem dX11_select_215 : decode cX11_select 215 = .ok (.return_, 1) := by decide +kernel
theorem dX11_select_216 : decode cX11_select 216 = .ok (.aload_n 0, 1) := by decide +kernel
theorem dX11_select_217 : decode cX11_select 217 = .ok (.invokevirtual 213, 3) := by decide +kernel
theorem dX11_select_220 : decode cX11_select 220 = .ok (.aload_n 0, 1) := by decide +kernel
theorem dX11_select_221 : decode cX11_select 221 = .ok (.aload_n 0, 1) := by decide +kernel
theorem dX11_select_222 : decode cX11_select 222 = .ok (.getfield 48, 3) := by decide +kernel
theorem dX11_select_225 : decode cX11_select 225 = .ok (.aload_n 0, 1) := by decide +kernel
theorem dX11_select_226 : decode cX11_select 226 = .ok (.getfield 159, 3) := by decide +kernel
theorem dX11_select_229 : decode cX11_select 229 = .ok (.iaload, 1) := by decide +kernel
theorem dX11_select_230 : decode cX11_select 230 = .ok (.putfield 249, 3) := by decide +kernel
theorem dX11_select_233 : decode cX11_select 233 = .ok (.iconst 1, 1) := by decide +kernel
theorem dX11_select_234 : decode cX11_select 234 = .ok (.istore_n 1, 1) := by decide +kernel
theorem dX11_select_235 : decode cX11_select 235 = .ok (.iload_n 1, 1) := by decide +kernel
theorem dX11_select_236 : decode cX11_select 236 = .ok (.ifCond .eq 119, 3) := by decide +kernel
theorem dX11_select_239 : decode cX11_select 239 = .ok (.aload_n 0, 1) := by decide +kernel
theorem dX11_select_240 : decode cX11_select 240 = .ok (.getfield 30, 3) := by decide +kernel
theorem dX11_select_243 : decode cX11_select 243 = .ok (.aload_n 0, 1) := by decide +kernel
theorem dX11_select_244 : decode cX11_select 244 = .ok (.getfield 159, 3) := by decide +kernel
theorem dX11_select_247 : decode cX11_select 247 = .ok (.iaload, 1) := by decide +kernel
theorem dX11_select_248 : decode cX11_select 248 = .ok (.iconst 3, 1) := by decide +kernel
theorem dX11_select_249 : decode cX11_select 249 = .ok (.if_icmp .ne 12, 3) := by decide +kernel
theorem dX11_select_252 : decode cX11_select 252 = .ok (.aload_n 0, 1) := by decide +kernel
theorem dX11_select_253 : decode cX11_select 253 = .ok (.iconst 1, 1) := by decide +kernel
theorem dX11_select_254 : decode cX11_select 254 = .ok (.aload_n 0, 1) := by decide +kernel
theorem dX11_select_255 : decode cX11_select 255 = .ok (.getfield 188, 3) := by decide +kernel
theorem dX11_select_258 : decode cX11_select 258 = .ok (.invokevirtual 216, 3) := by decide +kernel
theorem dX11_select_261 : decode cX11_select 261 = .ok (.aload_n 0, 1) := by decide +kernel
theorem dX11_select_262 : decode cX11_select 262 = .ok (.getfield 169, 3) := by decide +kernel
theorem dX11_select_265 : decode cX11_select 265 = .ok (.ifCond .ne 43, 3) := by decide +kernel
theorem dX11_select_268 : decode cX11_select 268 = .ok (.aload_n 0, 1) := by decide +kernel
theorem dX11_select_269 : decode cX11_select 269 = .ok (.getfield 108, 3) := by decide +kernel
theorem dX11_select_272 : decode cX11_select 272 = .ok (.aload_n 0, 1) := by decide +kernel
theorem dX11_select_273 : decode cX11_select 273 = .ok (.getfield 30, 3) := by decide +kernel
theorem dX11_select_276 : decode cX11_select 276 = .ok (.aload_n 0, 1) := by decide +kernel
theorem dX11_select_277 : decode cX11_select 277 = .ok (.getfield 159, 3) := by decide +kernel
theorem dX11_select_280 : decode cX11_select 280 = .ok (.iaload, 1) := by decide +kernel
theorem dX11_select_281 : decode cX11_select 281 = .ok (.aload_n 0, 1) := by decide +kernel
theorem dX11_select_282 : decode cX11_select 282 = .ok (.getfield 194, 3) := by decide +kernel
theorem dX11_select_285 : decode cX11_select 285 = .ok (.lastore, 1) := by decide +kernel
theorem dX11_select_286 : decode cX11_select 286 = .ok (.aload_n 0, 1) := by decide +kernel
theorem dX11_select_287 : decode cX11_select 287 = .ok (.getfield 111, 3) := by decide +kernel
theorem dX11_select_290 : decode cX11_select 290 = .ok (.aload_n 0, 1) := by decide +kernel
theorem dX11_select_291 : decode cX11_select 291 = .ok (.getfield 30, 3) := by decide +kernel
theorem dX11_select_294 : decode cX11_select 294 = .ok (.aload_n 0, 1) := by decide +kernel
theorem dX11_select_295 : decode cX11_select 295 = .ok (.getfield 159, 3) := by decide +kernel
theorem dX11_select_298 : decode cX11_select 298 = .ok (.iaload, 1) := by decide +kernel
theorem dX11_select_299 : decode cX11_select 299 = .ok (.aload_n 0, 1) := by decide +kernel
theorem dX11_select_300 : decode cX11_select 300 = .ok (.getfield 188, 3) := by decide +kernel
theorem dX11_select_303 : decode cX11_select 303 = .ok (.iastore, 1) := by decide +kernel
theorem dX11_select_304 : decode cX11_select 304 = .ok (.aload_n 0, 1) := by decide +kernel
theorem dX11_select_305 : decode cX11_select 305 = .ok (.invokevirtual 238, 3) := by decide +kernel
theorem dX11_select_308 : decode cX11_select 308 = .ok (.aload_n 0, 1) := by decide +kernel
theorem dX11_select_309 : decode cX11_select 309 = .ok (.getfield 169, 3) := by decide +kernel
theorem dX11_select_312 : decode cX11_select 312 = .ok (.ifCond .eq 4, 3) := by decide +kernel
theorem dX11_select_315 : decode cX11_select 315 = .ok (.return_, 1) := by decide +kernel
theorem dX11_select_316 : decode cX11_select 316 = .ok (.aload_n 0, 1) := by decide +kernel
theorem dX11_select_317 : decode cX11_select 317 = .ok (.getfield 30, 3) := by decide +kernel
theorem dX11_select_320 : decode cX11_select 320 = .ok (.aload_n 0, 1) := by decide +kernel
theorem dX11_select_321 : decode cX11_select 321 = .ok (.getfield 159, 3) := by decide +kernel
theorem dX11_select_324 : decode cX11_select 324 = .ok (.dup2, 1) := by decide +kernel
theorem dX11_select_325 : decode cX11_select 325 = .ok (.iaload, 1) := by decide +kernel
theorem dX11_select_326 : decode cX11_select 326 = .ok (.iconst 1, 1) := by decide +kernel
theorem dX11_select_327 : decode cX11_select 327 = .ok (.iadd, 1) := by decide +kernel
theorem dX11_select_328 : decode cX11_select 328 = .ok (.iastore, 1) := by decide +kernel
theorem dX11_select_329 : decode cX11_select 329 = .ok (.aload_n 0, 1) := by decide +kernel
theorem dX11_select_330 : decode cX11_select 330 = .ok (.getfield 197, 3) := by decide +kernel
theorem dX11_select_333 : decode cX11_select 333 = .ok (.bipush 44, 2) := by decide +kernel
theorem dX11_select_335 : decode cX11_select 335 = .ok (.if_icmp .ne 7, 3) := by decide +kernel
theorem dX11_select_338 : decode cX11_select 338 = .ok (.iconst 1, 1) := by decide +kernel
theorem dX11_select_339 : decode cX11_select 339 = .ok (.goto 4, 3) := by decide +kernel
theorem dX11_select_342 : decode cX11_select 342 = .ok (.iconst 0, 1) := by decide +kernel
theorem dX11_select_343 : decode cX11_select 343 = .ok (.istore_n 1, 1) := by decide +kernel
theorem dX11_select_344 : decode cX11_select 344 = .ok (.iload_n 1, 1) := by decide +kernel
theorem dX11_select_345 : decode cX11_select 345 = .ok (.ifCond .eq (-110), 3) := by decide +kernel
theorem dX11_select_348 : decode cX11_select 348 = .ok (.aload_n 0, 1) := by decide +kernel
theorem dX11_select_349 : decode cX11_select 349 = .ok (.invokevirtual 213, 3) := by decide +kernel
theorem dX11_select_352 : decode cX11_select 352 = .ok (.goto (-117), 3) := by decide +kernel
theorem dX11_select_355 : decode cX11_select 355 = .ok (.aload_n 0, 1) := by decide +kernel
theorem dX11_select_356 : decode cX11_select 356 = .ok (.aload_n 0, 1) := by decide +kernel
theorem dX11_select_357 : decode cX11_select 357 = .ok (.getfield 96, 3) := by decide +kernel
theorem dX11_select_360 : decode cX11_select 360 = .ok (.invokevirtual 227, 3) := by decide +kernel
theorem dX11_select_363 : decode cX11_select 363 = .ok (.ifCond .ne 4, 3) := by decide +kernel
theorem dX11_select_366 : decode cX11_select 366 = .ok (.return_, 1) := by decide +kernel
theorem dX11_select_367 : decode cX11_select 367 = .ok (.aload_n 0, 1) := by decide +kernel
theorem dX11_select_368 : decode cX11_select 368 = .ok (.invokevirtual 213, 3) := by decide +kernel
theorem dX11_select_371 : decode cX11_select 371 = .ok (.aload_n 0, 1) := by decide +kernel
theorem dX11_select_372 : decode cX11_select 372 = .ok (.bipush 6, 2) := by decide +kernel
theorem dX11_select_374 : decode cX11_select 374 = .ok (.invokevirtual 246, 3) := by decide +kernel
theorem dX11_select_377 : decode cX11_select 377 = .ok (.aload_n 0, 1) := by decide +kernel
theorem dX11_select_378 : decode cX11_select 378 = .ok (.getfield 169, 3) := by decide +kernel
theorem dX11_select_381 : decode cX11_select 381 = .ok (.ifCond .ne 30, 3) := by decide +kernel
theorem dX11_select_384 : decode cX11_select 384 = .ok (.aload_n 0, 1) := by decide +kernel
theorem dX11_select_385 : decode cX11_select 385 = .ok (.getfield 197, 3) := by decide +kernel
theorem dX11_select_388 : decode cX11_select 388 = .ok (.bipush 60, 2) := by decide +kernel
theorem dX11_select_390 : decode cX11_select 390 = .ok (.if_icmp .eq 21, 3) := by decide +kernel
theorem dX11_select_393 : decode cX11_select 393 = .ok (.aload_n 0, 1) := by decide +kernel
theorem dX11_select_394 : decode cX11_select 394 = .ok (.getfield 197, 3) := by decide +kernel
theorem dX11_select_397 : decode cX11_select 397 = .ok (.bipush 61, 2) := by decide +kernel
theorem dX11_select_399 : decode cX11_select 399 = .ok (.if_icmp .eq 12, 3) := by decide +kernel
theorem dX11_select_402 : decode cX11_select 402 = .ok (.aload_n 0, 1) := by decide +kernel
theorem dX11_select_403 : decode cX11_select 403 = .ok (.iconst 1, 1) := by decide +kernel
theorem dX11_select_404 : decode cX11_select 404 = .ok (.aload_n 0, 1) := by decide +kernel
theorem dX11_select_405 : decode cX11_select 405 = .ok (.getfield 188, 3) := by decide +kernel
theorem dX11_select_408 : decode cX11_select 408 = .ok (.invokevirtual 216, 3) := by decide +kernel
theorem dX11_select_411 : decode cX11_select 411 = .ok (.aload_n 0, 1) := by decide +kernel
theorem dX11_select_412 : decode cX11_select 412 = .ok (.getfield 169, 3) := by decide +kernel
theorem dX11_select_415 : decode cX11_select 415 = .ok (.ifCond .eq 4, 3) := by decide +kernel
theorem dX11_select_418 : decode cX11_select 418 = .ok (.return_, 1) := by decide +kernel
theorem dX11_select_419 : decode cX11_select 419 = .ok (.aload_n 0, 1) := by decide +kernel
theorem dX11_select_420 : decode cX11_select 420 = .ok (.aload_n 0, 1) := by decide +kernel
theorem dX11_select_421 : decode cX11_select 421 = .ok (.getfield 188, 3) := by decide +kernel
theorem dX11_select_424 : decode cX11_select 424 = .ok (.putfield 252, 3) := by decide +kernel
theorem dX11_select_427 : decode cX11_select 427 = .ok (.aload_n 0, 1) := by decide +kernel
theorem dX11_select_428 : decode cX11_select 428 = .ok (.invokevirtual 213, 3) := by decide +kernel
theorem dX11_select_431 : decode cX11_select 431 = .ok (.aload_n 0, 1) := by decide +kernel
theorem dX11_select_432 : decode cX11_select 432 = .ok (.bipush 7, 2) := by decide +kernel
theorem dX11_select_434 : decode cX11_select 434 = .ok (.invokevirtual 246, 3) := by decide +kernel
theorem dX11_select_437 : decode cX11_select 437 = .ok (.return_, 1) := by decide +kernel
theorem dX11_means_0 : decode cX11_means 0 = .ok (.aload_n 0, 1) := by decide +kernel
theorem dX11_means_1 : decode cX11_means 1 = .ok (.getfield 169, 3) := by decide +kernel
theorem dX11_means_4 : decode cX11_means 4 = .ok (.ifCond .eq 12, 3) := by decide +kernel
theorem dX11_means_7 : decode cX11_means 7 = .ok (.aload_n 0, 1) := by decide +kernel
theorem dX11_means_8 : decode cX11_means 8 = .ok (.getfield 172, 3) := by decide +kernel
theorem dX11_means_11 : decode cX11_means 11 = .ok (.iload_n 2, 1) := by decide +kernel
theorem dX11_means_12 : decode cX11_means 12 = .ok (.if_icmp .gt 4, 3) := by decide +kernel
theorem dX11_means_15 : decode cX11_means 15 = .ok (.return_, 1) := by decide +kernel
theorem dX11_means_16 : decode cX11_means 16 = .ok (.aload_n 0, 1) := by decide +kernel
theorem dX11_means_17 : decode cX11_means 17 = .ok (.iload_n 1, 1) := by decide +kernel
theorem dX11_means_18 : decode cX11_means 18 = .ok (.putfield 169, 3) := by decide +kernel
theorem dX11_means_21 : decode cX11_means 21 = .ok (.aload_n 0, 1) := by decide +kernel
theorem dX11_means_22 : decode cX11_means 22 = .ok (.iload_n 2, 1) := by decide +kernel
theorem dX11_means_23 : decode cX11_means 23 = .ok (.putfield 172, 3) := by decide +kernel
theorem dX11_means_26 : decode cX11_means 26 = .ok (.return_, 1) := by decide +kernel
theorem dX11_tableNamed_0 : decode cX11_tableNamed 0 = .ok (.iconst 0, 1) := by decide +kernel
theorem dX11_tableNamed_1 : decode cX11_tableNamed 1 = .ok (.istore_n 3, 1) := by decide +kernel
theorem dX11_tableNamed_2 : decode cX11_tableNamed 2 = .ok (.iload_n 3, 1) := by decide +kernel
theorem dX11_tableNamed_3 : decode cX11_tableNamed 3 = .ok (.aload_n 0, 1) := by decide +kernel
theorem dX11_tableNamed_4 : decode cX11_tableNamed 4 = .ok (.getfield 159, 3) := by decide +kernel
theorem dX11_tableNamed_7 : decode cX11_tableNamed 7 = .ok (.if_icmp .ge 31, 3) := by decide +kernel
theorem dX11_tableNamed_10 : decode cX11_tableNamed 10 = .ok (.aload_n 0, 1) := by decide +kernel
theorem dX11_tableNamed_11 : decode cX11_tableNamed 11 = .ok (.getfield 7, 3) := by decide +kernel
theorem dX11_tableNamed_14 : decode cX11_tableNamed 14 = .ok (.iload_n 3, 1) := by decide +kernel
theorem dX11_tableNamed_15 : decode cX11_tableNamed 15 = .ok (.baload, 1) := by decide +kernel
theorem dX11_tableNamed_16 : decode cX11_tableNamed 16 = .ok (.ifCond .eq 16, 3) := by decide +kernel
theorem dX11_tableNamed_19 : decode cX11_tableNamed 19 = .ok (.aload_n 0, 1) := by decide +kernel
theorem dX11_tableNamed_20 : decode cX11_tableNamed 20 = .ok (.getfield 13, 3) := by decide +kernel
theorem dX11_tableNamed_23 : decode cX11_tableNamed 23 = .ok (.iload_n 3, 1) := by decide +kernel
theorem dX11_tableNamed_24 : decode cX11_tableNamed 24 = .ok (.laload, 1) := by decide +kernel
theorem dX11_tableNamed_25 : decode cX11_tableNamed 25 = .ok (.lload_n 1, 1) := by decide +kernel
theorem dX11_tableNamed_26 : decode cX11_tableNamed 26 = .ok (.lcmp, 1) := by decide +kernel
theorem dX11_tableNamed_27 : decode cX11_tableNamed 27 = .ok (.ifCond .ne 5, 3) := by decide +kernel
theorem dX11_tableNamed_30 : decode cX11_tableNamed 30 = .ok (.iload_n 3, 1) := by decide +kernel
theorem dX11_tableNamed_31 : decode cX11_tableNamed 31 = .ok (.ireturn, 1) := by decide +kernel
theorem dX11_tableNamed_32 : decode cX11_tableNamed 32 = .ok (.iinc 3 1, 3) := by decide +kernel
theorem dX11_tableNamed_35 : decode cX11_tableNamed 35 = .ok (.goto (-33), 3) := by decide +kernel
theorem dX11_tableNamed_38 : decode cX11_tableNamed 38 = .ok (.iconst (-1), 1) := by decide +kernel
theorem dX11_tableNamed_39 : decode cX11_tableNamed 39 = .ok (.ireturn, 1) := by decide +kernel
theorem dX11_wordOf_0 : decode cX11_wordOf 0 = .ok (.lconst 0, 1) := by decide +kernel
theorem dX11_wordOf_1 : decode cX11_wordOf 1 = .ok (.lstore_n 3, 1) := by decide +kernel
theorem dX11_wordOf_2 : decode cX11_wordOf 2 = .ok (.sipush 400, 3) := by decide +kernel
theorem dX11_wordOf_5 : decode cX11_wordOf 5 = .ok (.iload_n 1, 1) := by decide +kernel
theorem dX11_wordOf_6 : decode cX11_wordOf 6 = .ok (.imul, 1) := by decide +kernel
theorem dX11_wordOf_7 : decode cX11_wordOf 7 = .ok (.iload_n 2, 1) := by decide +kernel
theorem dX11_wordOf_8 : decode cX11_wordOf 8 = .ok (.iadd, 1) := by decide +kernel
theorem dX11_wordOf_9 : decode cX11_wordOf 9 = .ok (.istore 5, 2) := by decide +kernel
theorem dX11_wordOf_11 : decode cX11_wordOf 11 = .ok (.iconst 0, 1) := by decide +kernel
theorem dX11_wordOf_12 : decode cX11_wordOf 12 = .ok (.istore 6, 2) := by decide +kernel
theorem dX11_wordOf_14 : decode cX11_wordOf 14 = .ok (.iload 6, 2) := by decide +kernel
theorem dX11_wordOf_16 : decode cX11_wordOf 16 = .ok (.aload_n 0, 1) := by decide +kernel
theorem dX11_wordOf_17 : decode cX11_wordOf 17 = .ok (.getfield 57, 3) := by decide +kernel
theorem dX11_wordOf_20 : decode cX11_wordOf 20 = .ok (.iload 5, 2) := by decide +kernel
theorem dX11_wordOf_22 : decode cX11_wordOf 22 = .ok (.iaload, 1) := by decide +kernel
theorem dX11_wordOf_23 : decode cX11_wordOf 23 = .ok (.if_icmp .ge 44, 3) := by decide +kernel
theorem dX11_wordOf_26 : decode cX11_wordOf 26 = .ok (.ldc2_w 175, 3) := by decide +kernel
theorem dX11_wordOf_29 : decode cX11_wordOf 29 = .ok (.lload_n 3, 1) := by decide +kernel
theorem dX11_wordOf_30 : decode cX11_wordOf 30 = .ok (.lmul, 1) := by decide +kernel
theorem dX11_wordOf_31 : decode cX11_wordOf 31 = .ok (.aload_n 0, 1) := by decide +kernel
theorem dX11_wordOf_32 : decode cX11_wordOf 32 = .ok (.getfield 60, 3) := by decide +kernel
theorem dX11_wordOf_35 : decode cX11_wordOf 35 = .ok (.sipush 400, 3) := by decide +kernel
theorem dX11_wordOf_38 : decode cX11_wordOf 38 = .ok (.iload_n 1, 1) := by decide +kernel
theorem dX11_wordOf_39 : decode cX11_wordOf 39 = .ok (.imul, 1) := by decide +kernel
theorem dX11_wordOf_40 : decode cX11_wordOf 40 = .ok (.aload_n 0, 1) := by decide +kernel
theorem dX11_wordOf_41 : decode cX11_wordOf 41 = .ok (.getfield 54, 3) := by decide +kernel
theorem dX11_wordOf_44 : decode cX11_wordOf 44 = .ok (.iload 5, 2) := by decide +kernel
theorem dX11_wordOf_46 : decode cX11_wordOf 46 = .ok (.iaload, 1) := by decide +kernel
theorem dX11_wordOf_47 : decode cX11_wordOf 47 = .ok (.iadd, 1) := by decide +kernel
theorem dX11_wordOf_48 : decode cX11_wordOf 48 = .ok (.iload 6, 2) := by decide +kernel
theorem dX11_wordOf_50 : decode cX11_wordOf 50 = .ok (.iadd, 1) := by decide +kernel
theorem dX11_wordOf_51 : decode cX11_wordOf 51 = .ok (.iaload, 1) := by decide +kernel
theorem dX11_wordOf_52 : decode cX11_wordOf 52 = .ok (.i2l, 1) := by decide +kernel
theorem dX11_wordOf_53 : decode cX11_wordOf 53 = .ok (.ladd, 1) := by decide +kernel
theorem dX11_wordOf_54 : decode cX11_wordOf 54 = .ok (.ldc2_w 177, 3) := by decide +kernel
theorem dX11_wordOf_57 : decode cX11_wordOf 57 = .ok (.lsub, 1) := by decide +kernel
theorem dX11_wordOf_58 : decode cX11_wordOf 58 = .ok (.lconst 1, 1) := by decide +kernel
theorem dX11_wordOf_59 : decode cX11_wordOf 59 = .ok (.ladd, 1) := by decide +kernel
theorem dX11_wordOf_60 : decode cX11_wordOf 60 = .ok (.lstore_n 3, 1) := by decide +kernel
theorem dX11_wordOf_61 : decode cX11_wordOf 61 = .ok (.iinc 6 1, 3) := by decide +kernel
theorem dX11_wordOf_64 : decode cX11_wordOf 64 = .ok (.goto (-50), 3) := by decide +kernel
theorem dX11_wordOf_67 : decode cX11_wordOf 67 = .ok (.lload_n 3, 1) := by decide +kernel
theorem dX11_wordOf_68 : decode cX11_wordOf 68 = .ok (.lreturn, 1) := by decide +kernel
theorem dX11_behindNamed_0 : decode cX11_behindNamed 0 = .ok (.iconst 0, 1) := by decide +kernel
theorem dX11_behindNamed_1 : decode cX11_behindNamed 1 = .ok (.istore 4, 2) := by decide +kernel
theorem dX11_behindNamed_3 : decode cX11_behindNamed 3 = .ok (.iload 4, 2) := by decide +kernel
theorem dX11_behindNamed_5 : decode cX11_behindNamed 5 = .ok (.aload_n 0, 1) := by decide +kernel
theorem dX11_behindNamed_6 : decode cX11_behindNamed 6 = .ok (.getfield 30, 3) := by decide +kernel
theorem dX11_behindNamed_9 : decode cX11_behindNamed 9 = .ok (.iload_n 1, 1) := by decide +kernel
theorem dX11_behindNamed_10 : decode cX11_behindNamed 10 = .ok (.iaload, 1) := by decide +kernel
theorem dX11_behindNamed_11 : decode cX11_behindNamed 11 = .ok (.if_icmp .ge 57, 3) := by decide +kernel
theorem dX11_behindNamed_14 : decode cX11_behindNamed 14 = .ok (.aload_n 0, 1) := by decide +kernel
theorem dX11_behindNamed_15 : decode cX11_behindNamed 15 = .ok (.getfield 33, 3) := by decide +kernel
theorem dX11_behindNamed_18 : decode cX11_behindNamed 18 = .ok (.iconst 3, 1) := by decide +kernel
theorem dX11_behindNamed_19 : decode cX11_behindNamed 19 = .ok (.iload_n 1, 1) := by decide +kernel
theorem dX11_behindNamed_20 : decode cX11_behindNamed 20 = .ok (.imul, 1) := by decide +kernel
theorem dX11_behindNamed_21 : decode cX11_behindNamed 21 = .ok (.iload 4, 2) := by decide +kernel
theorem dX11_behindNamed_23 : decode cX11_behindNamed 23 = .ok (.iadd, 1) := by decide +kernel
theorem dX11_behindNamed_24 : decode cX11_behindNamed 24 = .ok (.iaload, 1) := by decide +kernel
theorem dX11_behindNamed_25 : decode cX11_behindNamed 25 = .ok (.iconst (-1), 1) := by decide +kernel
theorem dX11_behindNamed_26 : decode cX11_behindNamed 26 = .ok (.if_icmp .eq 36, 3) := by decide +kernel
theorem dX11_behindNamed_29 : decode cX11_behindNamed 29 = .ok (.aload_n 0, 1) := by decide +kernel
theorem dX11_behindNamed_30 : decode cX11_behindNamed 30 = .ok (.getfield 13, 3) := by decide +kernel
theorem dX11_behindNamed_33 : decode cX11_behindNamed 33 = .ok (.aload_n 0, 1) := by decide +kernel
theorem dX11_behindNamed_34 : decode cX11_behindNamed 34 = .ok (.getfield 33, 3) := by decide +kernel
theorem dX11_behindNamed_37 : decode cX11_behindNamed 37 = .ok (.iconst 3, 1) := by decide +kernel
theorem dX11_behindNamed_38 : decode cX11_behindNamed 38 = .ok (.iload_n 1, 1) := by decide +kernel
theorem dX11_behindNamed_39 : decode cX11_behindNamed 39 = .ok (.imul, 1) := by decide +kernel
theorem dX11_behindNamed_40 : decode cX11_behindNamed 40 = .ok (.iload 4, 2) := by decide +kernel
theorem dX11_behindNamed_42 : decode cX11_behindNamed 42 = .ok (.iadd, 1) := by decide +kernel
theorem dX11_behindNamed_43 : decode cX11_behindNamed 43 = .ok (.iaload, 1) := by decide +kernel
theorem dX11_behindNamed_44 : decode cX11_behindNamed 44 = .ok (.laload, 1) := by decide +kernel
theorem dX11_behindNamed_45 : decode cX11_behindNamed 45 = .ok (.lload_n 2, 1) := by decide +kernel
theorem dX11_behindNamed_46 : decode cX11_behindNamed 46 = .ok (.lcmp, 1) := by decide +kernel
theorem dX11_behindNamed_47 : decode cX11_behindNamed 47 = .ok (.ifCond .ne 15, 3) := by decide +kernel
theorem dX11_behindNamed_50 : decode cX11_behindNamed 50 = .ok (.aload_n 0, 1) := by decide +kernel
theorem dX11_behindNamed_51 : decode cX11_behindNamed 51 = .ok (.getfield 33, 3) := by decide +kernel
theorem dX11_behindNamed_54 : decode cX11_behindNamed 54 = .ok (.iconst 3, 1) := by decide +kernel
theorem dX11_behindNamed_55 : decode cX11_behindNamed 55 = .ok (.iload_n 1, 1) := by decide +kernel
theorem dX11_behindNamed_56 : decode cX11_behindNamed 56 = .ok (.imul, 1) := by decide +kernel
theorem dX11_behindNamed_57 : decode cX11_behindNamed 57 = .ok (.iload 4, 2) := by decide +kernel
theorem dX11_behindNamed_59 : decode cX11_behindNamed 59 = .ok (.iadd, 1) := by decide +kernel
theorem dX11_behindNamed_60 : decode cX11_behindNamed 60 = .ok (.iaload, 1) := by decide +kernel
theorem dX11_behindNamed_61 : decode cX11_behindNamed 61 = .ok (.ireturn, 1) := by decide +kernel
theorem dX11_behindNamed_62 : decode cX11_behindNamed 62 = .ok (.iinc 4 1, 3) := by decide +kernel
theorem dX11_behindNamed_65 : decode cX11_behindNamed 65 = .ok (.goto (-62), 3) := by decide +kernel
theorem dX11_behindNamed_68 : decode cX11_behindNamed 68 = .ok (.iconst (-1), 1) := by decide +kernel
theorem dX11_behindNamed_69 : decode cX11_behindNamed 69 = .ok (.ireturn, 1) := by decide +kernel
theorem dX11_columnNamed_0 : decode cX11_columnNamed 0 = .ok (.iconst 0, 1) := by decide +kernel
theorem dX11_columnNamed_1 : decode cX11_columnNamed 1 = .ok (.istore 4, 2) := by decide +kernel
theorem dX11_columnNamed_3 : decode cX11_columnNamed 3 = .ok (.iload 4, 2) := by decide +kernel
theorem dX11_columnNamed_5 : decode cX11_columnNamed 5 = .ok (.aload_n 0, 1) := by decide +kernel
theorem dX11_columnNamed_6 : decode cX11_columnNamed 6 = .ok (.getfield 21, 3) := by decide +kernel
theorem dX11_columnNamed_9 : decode cX11_columnNamed 9 = .ok (.iload_n 1, 1) := by decide +kernel
theorem dX11_columnNamed_10 : decode cX11_columnNamed 10 = .ok (.iaload, 1) := by decide +kernel
theorem dX11_columnNamed_11 : decode cX11_columnNamed 11 = .ok (.if_icmp .ge 29, 3) := by decide +kernel
theorem dX11_columnNamed_14 : decode cX11_columnNamed 14 = .ok (.aload_n 0, 1) := by decide +kernel
theorem dX11_columnNamed_15 : decode cX11_columnNamed 15 = .ok (.getfield 24, 3) := by decide +kernel
theorem dX11_columnNamed_18 : decode cX11_columnNamed 18 = .ok (.bipush 8, 2) := by decide +kernel
theorem dX11_columnNamed_20 : decode cX11_columnNamed 20 = .ok (.iload_n 1, 1) := by decide +kernel
theorem dX11_columnNamed_21 : decode cX11_columnNamed 21 = .ok (.imul, 1) := by decide +kernel
theorem dX11_columnNamed_22 : decode cX11_columnNamed 22 = .ok (.iload 4, 2) := by decide +kernel
theorem dX11_columnNamed_24 : decode cX11_columnNamed 24 = .ok (.iadd, 1) := by decide +kernel
theorem dX11_columnNamed_25 : decode cX11_columnNamed 25 = .ok (.laload, 1) := by decide +kernel
theorem dX11_columnNamed_26 : decode cX11_columnNamed 26 = .ok (.lload_n 2, 1) := by decide +kernel
theorem dX11_columnNamed_27 : decode cX11_columnNamed 27 = .ok (.lcmp, 1) := by decide +kernel
theorem dX11_columnNamed_28 : decode cX11_columnNamed 28 = .ok (.ifCond .ne 6, 3) := by decide +kernel
theorem dX11_columnNamed_31 : decode cX11_columnNamed 31 = .ok (.iload 4, 2) := by decide +kernel
theorem dX11_columnNamed_33 : decode cX11_columnNamed 33 = .ok (.ireturn, 1) := by decide +kernel
theorem dX11_columnNamed_34 : decode cX11_columnNamed 34 = .ok (.iinc 4 1, 3) := by decide +kernel
theorem dX11_columnNamed_37 : decode cX11_columnNamed 37 = .ok (.goto (-34), 3) := by decide +kernel
theorem dX11_columnNamed_40 : decode cX11_columnNamed 40 = .ok (.iconst (-1), 1) := by decide +kernel
theorem dX11_columnNamed_41 : decode cX11_columnNamed 41 = .ok (.ireturn, 1) := by decide +kernel
theorem dX11_wrong_0 : decode cX11_wrong 0 = .ok (.aload_n 0, 1) := by decide +kernel
theorem dX11_wrong_1 : decode cX11_wrong 1 = .ok (.dup, 1) := by decide +kernel
theorem dX11_wrong_2 : decode cX11_wrong 2 = .ok (.getfield 255, 3) := by decide +kernel
theorem dX11_wrong_5 : decode cX11_wrong 5 = .ok (.iconst 1, 1) := by decide +kernel
theorem dX11_wrong_6 : decode cX11_wrong 6 = .ok (.iadd, 1) := by decide +kernel
theorem dX11_wrong_7 : decode cX11_wrong 7 = .ok (.putfield 255, 3) := by decide +kernel
theorem dX11_wrong_10 : decode cX11_wrong 10 = .ok (.aload_n 0, 1) := by decide +kernel
theorem dX11_wrong_11 : decode cX11_wrong 11 = .ok (.getfield 258, 3) := by decide +kernel
theorem dX11_wrong_14 : decode cX11_wrong 14 = .ok (.ifCond .eq 9, 3) := by decide +kernel
theorem dX11_wrong_17 : decode cX11_wrong 17 = .ok (.aload_n 0, 1) := by decide +kernel
theorem dX11_wrong_18 : decode cX11_wrong 18 = .ok (.iconst 3, 1) := by decide +kernel
theorem dX11_wrong_19 : decode cX11_wrong 19 = .ok (.iload_n 1, 1) := by decide +kernel
theorem dX11_wrong_20 : decode cX11_wrong 20 = .ok (.invokevirtual 262, 3) := by decide +kernel
theorem dX11_wrong_23 : decode cX11_wrong 23 = .ok (.return_, 1) := by decide +kernel
theorem dX11_comes_0 : decode cX11_comes 0 = .ok (.aload_n 0, 1) := by decide +kernel
theorem dX11_comes_1 : decode cX11_comes 1 = .ok (.getfield 114, 3) := by decide +kernel
theorem dX11_comes_4 : decode cX11_comes 4 = .ok (.aload_n 0, 1) := by decide +kernel
theorem dX11_comes_5 : decode cX11_comes 5 = .ok (.getfield 265, 3) := by decide +kernel
theorem dX11_comes_8 : decode cX11_comes 8 = .ok (.iaload, 1) := by decide +kernel
theorem dX11_comes_9 : decode cX11_comes 9 = .ok (.istore_n 2, 1) := by decide +kernel
theorem dX11_comes_10 : decode cX11_comes 10 = .ok (.aload_n 0, 1) := by decide +kernel
theorem dX11_comes_11 : decode cX11_comes 11 = .ok (.getfield 117, 3) := by decide +kernel
theorem dX11_comes_14 : decode cX11_comes 14 = .ok (.aload_n 0, 1) := by decide +kernel
theorem dX11_comes_15 : decode cX11_comes 15 = .ok (.getfield 265, 3) := by decide +kernel
theorem dX11_comes_18 : decode cX11_comes 18 = .ok (.iaload, 1) := by decide +kernel
theorem dX11_comes_19 : decode cX11_comes 19 = .ok (.istore_n 3, 1) := by decide +kernel
theorem dX11_comes_20 : decode cX11_comes 20 = .ok (.aload_n 0, 1) := by decide +kernel
theorem dX11_comes_21 : decode cX11_comes 21 = .ok (.getfield 117, 3) := by decide +kernel
theorem dX11_comes_24 : decode cX11_comes 24 = .ok (.aload_n 0, 1) := by decide +kernel
theorem dX11_comes_25 : decode cX11_comes 25 = .ok (.getfield 265, 3) := by decide +kernel
theorem dX11_comes_28 : decode cX11_comes 28 = .ok (.iconst 0, 1) := by decide +kernel
theorem dX11_comes_29 : decode cX11_comes 29 = .ok (.iastore, 1) := by decide +kernel
theorem dX11_comes_30 : decode cX11_comes 30 = .ok (.iload_n 3, 1) := by decide +kernel
theorem dX11_comes_31 : decode cX11_comes 31 = .ok (.ifCond .ne 14, 3) := by decide +kernel
theorem dX11_comes_34 : decode cX11_comes 34 = .ok (.aload_n 0, 1) := by decide +kernel
theorem dX11_comes_35 : decode cX11_comes 35 = .ok (.getfield 114, 3) := by decide +kernel
theorem dX11_comes_38 : decode cX11_comes 38 = .ok (.aload_n 0, 1) := by decide +kernel
theorem dX11_comes_39 : decode cX11_comes 39 = .ok (.getfield 265, 3) := by decide +kernel
theorem dX11_comes_42 : decode cX11_comes 42 = .ok (.iload_n 1, 1) := by decide +kernel
theorem dX11_comes_43 : decode cX11_comes 43 = .ok (.iastore, 1) := by decide +kernel
theorem dX11_comes_44 : decode cX11_comes 44 = .ok (.return_, 1) := by decide +kernel
theorem dX11_comes_45 : decode cX11_comes 45 = .ok (.iload_n 2, 1) := by decide +kernel
theorem dX11_comes_46 : decode cX11_comes 46 = .ok (.ifCond .eq 11, 3) := by decide +kernel
theorem dX11_comes_49 : decode cX11_comes 49 = .ok (.iload_n 1, 1) := by decide +kernel
theorem dX11_comes_50 : decode cX11_comes 50 = .ok (.ifCond .eq 7, 3) := by decide +kernel
theorem dX11_comes_53 : decode cX11_comes 53 = .ok (.iconst 1, 1) := by decide +kernel
theorem dX11_comes_54 : decode cX11_comes 54 = .ok (.goto 4, 3) := by decide +kernel
theorem dX11_comes_57 : decode cX11_comes 57 = .ok (.iconst 0, 1) := by decide +kernel
theorem dX11_comes_58 : decode cX11_comes 58 = .ok (.istore 4, 2) := by decide +kernel
theorem dX11_comes_60 : decode cX11_comes 60 = .ok (.iconst 0, 1) := by decide +kernel
theorem dX11_comes_61 : decode cX11_comes 61 = .ok (.istore 5, 2) := by decide +kernel
theorem dX11_comes_63 : decode cX11_comes 63 = .ok (.iload_n 3, 1) := by decide +kernel
theorem dX11_comes_64 : decode cX11_comes 64 = .ok (.bipush 38, 2) := by decide +kernel
theorem dX11_comes_66 : decode cX11_comes 66 = .ok (.if_icmp .ne 26, 3) := by decide +kernel
theorem dX11_comes_69 : decode cX11_comes 69 = .ok (.iload_n 2, 1) := by decide +kernel
theorem dX11_comes_70 : decode cX11_comes 70 = .ok (.bipush 116, 2) := by decide +kernel
theorem dX11_comes_72 : decode cX11_comes 72 = .ok (.if_icmp .ne 14, 3) := by decide +kernel
theorem dX11_comes_75 : decode cX11_comes 75 = .ok (.iload_n 1, 1) := by decide +kernel
theorem dX11_comes_76 : decode cX11_comes 76 = .ok (.bipush 116, 2) := by decide +kernel
theorem dX11_comes_78 : decode cX11_comes 78 = .ok (.if_icmp .ne 8, 3) := by decide +kernel
theorem dX11_comes_81 : decode cX11_comes 81 = .ok (.bipush 116, 2) := by decide +kernel
theorem dX11_comes_83 : decode cX11_comes 83 = .ok (.goto 4, 3) := by decide +kernel
theorem dX11_comes_86 : decode cX11_comes 86 = .ok (.iconst 0, 1) := by decide +kernel
theorem dX11_comes_87 : decode cX11_comes 87 = .ok (.istore 5, 2) := by decide +kernel
theorem dX11_comes_89 : decode cX11_comes 89 = .ok (.goto 53, 3) := by decide +kernel
theorem dX11_comes_92 : decode cX11_comes 92 = .ok (.iload_n 1, 1) := by decide +kernel
theorem dX11_comes_93 : decode cX11_comes 93 = .ok (.bipush 110, 2) := by decide +kernel
theorem dX11_comes_95 : decode cX11_comes 95 = .ok (.if_icmp .ne 25, 3) := by decide +kernel
theorem dX11_comes_98 : decode cX11_comes 98 = .ok (.iload_n 2, 1) := by decide +kernel
theorem dX11_comes_99 : decode cX11_comes 99 = .ok (.bipush 110, 2) := by decide +kernel
theorem dX11_comes_101 : decode cX11_comes 101 = .ok (.if_icmp .eq 9, 3) := by decide +kernel
theorem dX11_comes_104 : decode cX11_comes 104 = .ok (.iload_n 2, 1) := by decide +kernel
theorem dX11_comes_105 : decode cX11_comes 105 = .ok (.bipush 100, 2) := by decide +kernel
theorem dX11_comes_107 : decode cX11_comes 107 = .ok (.if_icmp .ne 7, 3) := by decide +kernel
theorem dX11_comes_110 : decode cX11_comes 110 = .ok (.iload_n 2, 1) := by decide +kernel
theorem dX11_comes_111 : decode cX11_comes 111 = .ok (.goto 4, 3) := by decide +kernel
theorem dX11_comes_114 : decode cX11_comes 114 = .ok (.iconst 0, 1) := by decide +kernel
theorem dX11_comes_115 : decode cX11_comes 115 = .ok (.istore 5, 2) := by decide +kernel
theorem dX11_comes_117 : decode cX11_comes 117 = .ok (.goto 25, 3) := by decide +kernel
theorem dX11_comes_120 : decode cX11_comes 120 = .ok (.iload_n 3, 1) := by decide +kernel
theorem dX11_comes_121 : decode cX11_comes 121 = .ok (.bipush 45, 2) := by decide +kernel
theorem dX11_comes_123 : decode cX11_comes 123 = .ok (.if_icmp .ne 19, 3) := by decide +kernel
theorem dX11_comes_126 : decode cX11_comes 126 = .ok (.iload_n 2, 1) := by decide +kernel
theorem dX11_comes_127 : decode cX11_comes 127 = .ok (.bipush 100, 2) := by decide +kernel
theorem dX11_comes_129 : decode cX11_comes 129 = .ok (.if_icmp .ne 13, 3) := by decide +kernel
theorem dX11_comes_132 : decode cX11_comes 132 = .ok (.iload_n 1, 1) := by decide +kernel
theorem dX11_comes_133 : decode cX11_comes 133 = .ok (.bipush 100, 2) := by decide +kernel
theorem dX11_comes_135 : decode cX11_comes 135 = .ok (.if_icmp .ne 7, 3) := by decide +kernel
theorem dX11_comes_138 : decode cX11_comes 138 = .ok (.bipush 110, 2) := by decide +kernel
theorem dX11_comes_140 : decode cX11_comes 140 = .ok (.istore 5, 2) := by decide +kernel
theorem dX11_comes_142 : decode cX11_comes 142 = .ok (.iload 4, 2) := by decide +kernel
theorem dX11_comes_144 : decode cX11_comes 144 = .ok (.ifCond .eq 21, 3) := by decide +kernel
theorem dX11_comes_147 : decode cX11_comes 147 = .ok (.iload 5, 2) := by decide +kernel
theorem dX11_comes_149 : decode cX11_comes 149 = .ok (.ifCond .ne 16, 3) := by decide +kernel
theorem dX11_comes_152 : decode cX11_comes 152 = .ok (.aload_n 0, 1) := by decide +kernel
theorem dX11_comes_153 : decode cX11_comes 153 = .ok (.aload_n 0, 1) := by decide +kernel
theorem dX11_comes_154 : decode cX11_comes 154 = .ok (.getfield 120, 3) := by decide +kernel
theorem dX11_comes_157 : decode cX11_comes 157 = .ok (.aload_n 0, 1) := by decide +kernel
theorem dX11_comes_158 : decode cX11_comes 158 = .ok (.getfield 265, 3) := by decide +kernel
theorem dX11_comes_161 : decode cX11_comes 161 = .ok (.iaload, 1) := by decide +kernel
theorem dX11_comes_162 : decode cX11_comes 162 = .ok (.invokevirtual 268, 3) := by decide +kernel
theorem dX11_comes_165 : decode cX11_comes 165 = .ok (.aload_n 0, 1) := by decide +kernel
theorem dX11_comes_166 : decode cX11_comes 166 = .ok (.getfield 114, 3) := by decide +kernel
theorem dX11_comes_169 : decode cX11_comes 169 = .ok (.aload_n 0, 1) := by decide +kernel
theorem dX11_comes_170 : decode cX11_comes 170 = .ok (.getfield 265, 3) := by decide +kernel
theorem dX11_comes_173 : decode cX11_comes 173 = .ok (.iload 5, 2) := by decide +kernel
theorem dX11_comes_175 : decode cX11_comes 175 = .ok (.iastore, 1) := by decide +kernel
theorem dX11_comes_176 : decode cX11_comes 176 = .ok (.return_, 1) := by decide +kernel
theorem dX11_typeOf_0 : decode cX11_typeOf 0 = .ok (.aload_n 0, 1) := by decide +kernel
theorem dX11_typeOf_1 : decode cX11_typeOf 1 = .ok (.iconst 0, 1) := by decide +kernel
theorem dX11_typeOf_2 : decode cX11_typeOf 2 = .ok (.putfield 265, 3) := by decide +kernel
theorem dX11_typeOf_5 : decode cX11_typeOf 5 = .ok (.aload_n 0, 1) := by decide +kernel
theorem dX11_typeOf_6 : decode cX11_typeOf 6 = .ok (.getfield 114, 3) := by decide +kernel
theorem dX11_typeOf_9 : decode cX11_typeOf 9 = .ok (.iconst 0, 1) := by decide +kernel
theorem dX11_typeOf_10 : decode cX11_typeOf 10 = .ok (.iconst 0, 1) := by decide +kernel
theorem dX11_typeOf_11 : decode cX11_typeOf 11 = .ok (.iastore, 1) := by decide +kernel
theorem dX11_typeOf_12 : decode cX11_typeOf 12 = .ok (.aload_n 0, 1) := by decide +kernel
theorem dX11_typeOf_13 : decode cX11_typeOf 13 = .ok (.getfield 117, 3) := by decide +kernel
theorem dX11_typeOf_16 : decode cX11_typeOf 16 = .ok (.iconst 0, 1) := by decide +kernel
theorem dX11_typeOf_17 : decode cX11_typeOf 17 = .ok (.iconst 0, 1) := by decide +kernel
theorem dX11_typeOf_18 : decode cX11_typeOf 18 = .ok (.iastore, 1) := by decide +kernel
theorem dX11_typeOf_19 : decode cX11_typeOf 19 = .ok (.aload_n 0, 1) := by decide +kernel
theorem dX11_typeOf_20 : decode cX11_typeOf 20 = .ok (.getfield 63, 3) := by decide +kernel
theorem dX11_typeOf_23 : decode cX11_typeOf 23 = .ok (.bipush 8, 2) := by decide +kernel
theorem dX11_typeOf_25 : decode cX11_typeOf 25 = .ok (.iload_n 1, 1) := by decide +kernel
theorem dX11_typeOf_26 : decode cX11_typeOf 26 = .ok (.imul, 1) := by decide +kernel
theorem dX11_typeOf_27 : decode cX11_typeOf 27 = .ok (.iload_n 2, 1) := by decide +kernel
theorem dX11_typeOf_28 : decode cX11_typeOf 28 = .ok (.iadd, 1) := by decide +kernel
theorem dX11_typeOf_29 : decode cX11_typeOf 29 = .ok (.iaload, 1) := by decide +kernel
theorem dX11_typeOf_30 : decode cX11_typeOf 30 = .ok (.istore_n 3, 1) := by decide +kernel
theorem dX11_typeOf_31 : decode cX11_typeOf 31 = .ok (.iload_n 3, 1) := by decide +kernel
theorem dX11_typeOf_32 : decode cX11_typeOf 32 = .ok (.aload_n 0, 1) := by decide +kernel
theorem dX11_typeOf_33 : decode cX11_typeOf 33 = .ok (.getfield 66, 3) := by decide +kernel
theorem dX11_typeOf_36 : decode cX11_typeOf 36 = .ok (.bipush 8, 2) := by decide +kernel
theorem dX11_typeOf_38 : decode cX11_typeOf 38 = .ok (.iload_n 1, 1) := by decide +kernel
theorem dX11_typeOf_39 : decode cX11_typeOf 39 = .ok (.imul, 1) := by decide +kernel
theorem dX11_typeOf_40 : decode cX11_typeOf 40 = .ok (.iload_n 2, 1) := by decide +kernel
theorem dX11_typeOf_41 : decode cX11_typeOf 41 = .ok (.iadd, 1) := by decide +kernel
theorem dX11_typeOf_42 : decode cX11_typeOf 42 = .ok (.iaload, 1) := by decide +kernel
theorem dX11_typeOf_43 : decode cX11_typeOf 43 = .ok (.if_icmp .ge 314, 3) := by decide +kernel
theorem dX11_typeOf_46 : decode cX11_typeOf 46 = .ok (.sipush 400, 3) := by decide +kernel
theorem dX11_typeOf_49 : decode cX11_typeOf 49 = .ok (.iload_n 1, 1) := by decide +kernel
theorem dX11_typeOf_50 : decode cX11_typeOf 50 = .ok (.imul, 1) := by decide +kernel
theorem dX11_typeOf_51 : decode cX11_typeOf 51 = .ok (.iload_n 3, 1) := by decide +kernel
theorem dX11_typeOf_52 : decode cX11_typeOf 52 = .ok (.iadd, 1) := by decide +kernel
theorem dX11_typeOf_53 : decode cX11_typeOf 53 = .ok (.istore 4, 2) := by decide +kernel
theorem dX11_typeOf_55 : decode cX11_typeOf 55 = .ok (.aload_n 0, 1) := by decide +kernel
theorem dX11_typeOf_56 : decode cX11_typeOf 56 = .ok (.getfield 51, 3) := by decide +kernel
theorem dX11_typeOf_59 : decode cX11_typeOf 59 = .ok (.iload 4, 2) := by decide +kernel
theorem dX11_typeOf_61 : decode cX11_typeOf 61 = .ok (.iaload, 1) := by decide +kernel
theorem dX11_typeOf_62 : decode cX11_typeOf 62 = .ok (.iconst 2, 1) := by decide +kernel
theorem dX11_typeOf_63 : decode cX11_typeOf 63 = .ok (.if_icmp .ne 12, 3) := by decide +kernel
theorem dX11_typeOf_66 : decode cX11_typeOf 66 = .ok (.aload_n 0, 1) := by decide +kernel
theorem dX11_typeOf_67 : decode cX11_typeOf 67 = .ok (.bipush 110, 2) := by decide +kernel
theorem dX11_typeOf_69 : decode cX11_typeOf 69 = .ok (.invokevirtual 271, 3) := by decide +kernel
theorem dX11_typeOf_72 : decode cX11_typeOf 72 = .ok (.goto 279, 3) := by decide +kernel
theorem dX11_typeOf_75 : decode cX11_typeOf 75 = .ok (.aload_n 0, 1) := by decide +kernel
theorem dX11_typeOf_76 : decode cX11_typeOf 76 = .ok (.getfield 51, 3) := by decide +kernel
theorem dX11_typeOf_79 : decode cX11_typeOf 79 = .ok (.iload 4, 2) := by decide +kernel
theorem dX11_typeOf_81 : decode cX11_typeOf 81 = .ok (.iaload, 1) := by decide +kernel
theorem dX11_typeOf_82 : decode cX11_typeOf 82 = .ok (.iconst 3, 1) := by decide +kernel
theorem dX11_typeOf_83 : decode cX11_typeOf 83 = .ok (.if_icmp .ne 12, 3) := by decide +kernel
theorem dX11_typeOf_86 : decode cX11_typeOf 86 = .ok (.aload_n 0, 1) := by decide +kernel
theorem dX11_typeOf_87 : decode cX11_typeOf 87 = .ok (.bipush 116, 2) := by decide +kernel
theorem dX11_typeOf_89 : decode cX11_typeOf 89 = .ok (.invokevirtual 271, 3) := by decide +kernel
theorem dX11_typeOf_92 : decode cX11_typeOf 92 = .ok (.goto 259, 3) := by decide +kernel
theorem dX11_typeOf_95 : decode cX11_typeOf 95 = .ok (.aload_n 0, 1) := by decide +kernel
theorem dX11_typeOf_96 : decode cX11_typeOf 96 = .ok (.getfield 51, 3) := by decide +kernel
theorem dX11_typeOf_99 : decode cX11_typeOf 99 = .ok (.iload 4, 2) := by decide +kernel
theorem dX11_typeOf_101 : decode cX11_typeOf 101 = .ok (.iaload, 1) := by decide +kernel
theorem dX11_typeOf_102 : decode cX11_typeOf 102 = .ok (.iconst 1, 1) := by decide +kernel
theorem dX11_typeOf_103 : decode cX11_typeOf 103 = .ok (.if_icmp .ne 99, 3) := by decide +kernel
theorem dX11_typeOf_106 : decode cX11_typeOf 106 = .ok (.aload_n 0, 1) := by decide +kernel
theorem dX11_typeOf_107 : decode cX11_typeOf 107 = .ok (.getfield 51, 3) := by decide +kernel
theorem dX11_typeOf_110 : decode cX11_typeOf 110 = .ok (.iload 4, 2) := by decide +kernel
theorem dX11_typeOf_112 : decode cX11_typeOf 112 = .ok (.iconst 1, 1) := by decide +kernel
theorem dX11_typeOf_113 : decode cX11_typeOf 113 = .ok (.iadd, 1) := by decide +kernel
theorem dX11_typeOf_114 : decode cX11_typeOf 114 = .ok (.iaload, 1) := by decide +kernel
theorem dX11_typeOf_115 : decode cX11_typeOf 115 = .ok (.bipush 40, 2) := by decide +kernel
theorem dX11_typeOf_117 : decode cX11_typeOf 117 = .ok (.if_icmp .ne 85, 3) := by decide +kernel
theorem dX11_typeOf_120 : decode cX11_typeOf 120 = .ok (.aload_n 0, 1) := by decide +kernel
theorem dX11_typeOf_121 : decode cX11_typeOf 121 = .ok (.dup, 1) := by decide +kernel
theorem dX11_typeOf_122 : decode cX11_typeOf 122 = .ok (.getfield 265, 3) := by decide +kernel
theorem dX11_typeOf_125 : decode cX11_typeOf 125 = .ok (.iconst 1, 1) := by decide +kernel
theorem dX11_typeOf_126 : decode cX11_typeOf 126 = .ok (.iadd, 1) := by decide +kernel
theorem dX11_typeOf_127 : decode cX11_typeOf 127 = .ok (.putfield 265, 3) := by decide +kernel
theorem dX11_typeOf_130 : decode cX11_typeOf 130 = .ok (.aload_n 0, 1) := by decide +kernel
theorem dX11_typeOf_131 : decode cX11_typeOf 131 = .ok (.getfield 114, 3) := by decide +kernel
theorem dX11_typeOf_134 : decode cX11_typeOf 134 = .ok (.aload_n 0, 1) := by decide +kernel
theorem dX11_typeOf_135 : decode cX11_typeOf 135 = .ok (.getfield 265, 3) := by decide +kernel
theorem dX11_typeOf_138 : decode cX11_typeOf 138 = .ok (.iconst 0, 1) := by decide +kernel
theorem dX11_typeOf_139 : decode cX11_typeOf 139 = .ok (.iastore, 1) := by decide +kernel
theorem dX11_typeOf_140 : decode cX11_typeOf 140 = .ok (.aload_n 0, 1) := by decide +kernel
theorem dX11_typeOf_141 : decode cX11_typeOf 141 = .ok (.getfield 117, 3) := by decide +kernel
theorem dX11_typeOf_144 : decode cX11_typeOf 144 = .ok (.aload_n 0, 1) := by decide +kernel
theorem dX11_typeOf_145 : decode cX11_typeOf 145 = .ok (.getfield 265, 3) := by decide +kernel
theorem dX11_typeOf_148 : decode cX11_typeOf 148 = .ok (.iconst 0, 1) := by decide +kernel
theorem dX11_typeOf_149 : decode cX11_typeOf 149 = .ok (.iastore, 1) := by decide +kernel
theorem dX11_typeOf_150 : decode cX11_typeOf 150 = .ok (.aload_n 0, 1) := by decide +kernel
theorem dX11_typeOf_151 : decode cX11_typeOf 151 = .ok (.getfield 123, 3) := by decide +kernel
theorem dX11_typeOf_154 : decode cX11_typeOf 154 = .ok (.aload_n 0, 1) := by decide +kernel
theorem dX11_typeOf_155 : decode cX11_typeOf 155 = .ok (.getfield 265, 3) := by decide +kernel
theorem dX11_typeOf_158 : decode cX11_typeOf 158 = .ok (.aload_n 0, 1) := by decide +kernel
theorem dX11_typeOf_159 : decode cX11_typeOf 159 = .ok (.iload_n 1, 1) := by decide +kernel
theorem dX11_typeOf_160 : decode cX11_typeOf 160 = .ok (.iload_n 3, 1) := by decide +kernel
theorem dX11_typeOf_161 : decode cX11_typeOf 161 = .ok (.invokevirtual 274, 3) := by decide +kernel
theorem dX11_typeOf_164 : decode cX11_typeOf 164 = .ok (.aload_n 0, 1) := by decide +kernel
theorem dX11_typeOf_165 : decode cX11_typeOf 165 = .ok (.getfield 99, 3) := by decide +kernel
theorem dX11_typeOf_168 : decode cX11_typeOf 168 = .ok (.lcmp, 1) := by decide +kernel
theorem dX11_typeOf_169 : decode cX11_typeOf 169 = .ok (.ifCond .ne 8, 3) := by decide +kernel
theorem dX11_typeOf_172 : decode cX11_typeOf 172 = .ok (.bipush 116, 2) := by decide +kernel
theorem dX11_typeOf_174 : decode cX11_typeOf 174 = .ok (.goto 5, 3) := by decide +kernel
theorem dX11_typeOf_177 : decode cX11_typeOf 177 = .ok (.bipush 110, 2) := by decide +kernel
theorem dX11_typeOf_179 : decode cX11_typeOf 179 = .ok (.iastore, 1) := by decide +kernel
theorem dX11_typeOf_180 : decode cX11_typeOf 180 = .ok (.aload_n 0, 1) := by decide +kernel
theorem dX11_typeOf_181 : decode cX11_typeOf 181 = .ok (.getfield 126, 3) := by decide +kernel
theorem dX11_typeOf_184 : decode cX11_typeOf 184 = .ok (.aload_n 0, 1) := by decide +kernel
theorem dX11_typeOf_185 : decode cX11_typeOf 185 = .ok (.getfield 265, 3) := by decide +kernel
theorem dX11_typeOf_188 : decode cX11_typeOf 188 = .ok (.aload_n 0, 1) := by decide +kernel
theorem dX11_typeOf_189 : decode cX11_typeOf 189 = .ok (.getfield 54, 3) := by decide +kernel
theorem dX11_typeOf_192 : decode cX11_typeOf 192 = .ok (.iload 4, 2) := by decide +kernel
theorem dX11_typeOf_194 : decode cX11_typeOf 194 = .ok (.iaload, 1) := by decide +kernel
theorem dX11_typeOf_195 : decode cX11_typeOf 195 = .ok (.iastore, 1) := by decide +kernel
theorem dX11_typeOf_196 : decode cX11_typeOf 196 = .ok (.iinc 3 1, 3) := by decide +kernel
theorem dX11_typeOf_199 : decode cX11_typeOf 199 = .ok (.goto 152, 3) := by decide +kernel
theorem dX11_typeOf_202 : decode cX11_typeOf 202 = .ok (.aload_n 0, 1) := by decide +kernel
theorem dX11_typeOf_203 : decode cX11_typeOf 203 = .ok (.getfield 51, 3) := by decide +kernel
theorem dX11_typeOf_206 : decode cX11_typeOf 206 = .ok (.iload 4, 2) := by decide +kernel
theorem dX11_typeOf_208 : decode cX11_typeOf 208 = .ok (.iaload, 1) := by decide +kernel
theorem dX11_typeOf_209 : decode cX11_typeOf 209 = .ok (.iconst 1, 1) := by decide +kernel
theorem dX11_typeOf_210 : decode cX11_typeOf 210 = .ok (.if_icmp .ne 19, 3) := by decide +kernel
theorem dX11_typeOf_213 : decode cX11_typeOf 213 = .ok (.aload_n 0, 1) := by decide +kernel
theorem dX11_typeOf_214 : decode cX11_typeOf 214 = .ok (.aload_n 0, 1) := by decide +kernel
theorem dX11_typeOf_215 : decode cX11_typeOf 215 = .ok (.iload_n 1, 1) := by decide +kernel
theorem dX11_typeOf_216 : decode cX11_typeOf 216 = .ok (.iload_n 3, 1) := by decide +kernel
theorem dX11_typeOf_217 : decode cX11_typeOf 217 = .ok (.invokevirtual 277, 3) := by decide +kernel
theorem dX11_typeOf_220 : decode cX11_typeOf 220 = .ok (.invokevirtual 271, 3) := by decide +kernel
theorem dX11_typeOf_223 : decode cX11_typeOf 223 = .ok (.iinc 3 2, 3) := by decide +kernel
theorem dX11_typeOf_226 : decode cX11_typeOf 226 = .ok (.goto 125, 3) := by decide +kernel
theorem dX11_typeOf_229 : decode cX11_typeOf 229 = .ok (.aload_n 0, 1) := by decide +kernel
theorem dX11_typeOf_230 : decode cX11_typeOf 230 = .ok (.getfield 51, 3) := by decide +kernel
theorem dX11_typeOf_233 : decode cX11_typeOf 233 = .ok (.iload 4, 2) := by decide +kernel
theorem dX11_typeOf_235 : decode cX11_typeOf 235 = .ok (.iaload, 1) := by decide +kernel
theorem dX11_typeOf_236 : decode cX11_typeOf 236 = .ok (.bipush 41, 2) := by decide +kernel
theorem dX11_typeOf_238 : decode cX11_typeOf 238 = .ok (.if_icmp .ne 81, 3) := by decide +kernel
theorem dX11_typeOf_241 : decode cX11_typeOf 241 = .ok (.aload_n 0, 1) := by decide +kernel
theorem dX11_typeOf_242 : decode cX11_typeOf 242 = .ok (.getfield 114, 3) := by decide +kernel
theorem dX11_typeOf_245 : decode cX11_typeOf 245 = .ok (.aload_n 0, 1) := by decide +kernel
theorem dX11_typeOf_246 : decode cX11_typeOf 246 = .ok (.getfield 265, 3) := by decide +kernel
theorem dX11_typeOf_249 : decode cX11_typeOf 249 = .ok (.iaload, 1) := by decide +kernel
theorem dX11_typeOf_250 : decode cX11_typeOf 250 = .ok (.istore 5, 2) := by decide +kernel
theorem dX11_typeOf_252 : decode cX11_typeOf 252 = .ok (.aload_n 0, 1) := by decide +kernel
theorem dX11_typeOf_253 : decode cX11_typeOf 253 = .ok (.getfield 123, 3) := by decide +kernel
theorem dX11_typeOf_256 : decode cX11_typeOf 256 = .ok (.aload_n 0, 1) := by decide +kernel
theorem dX11_typeOf_257 : decode cX11_typeOf 257 = .ok (.getfield 265, 3) := by decide +kernel
theorem dX11_typeOf_260 : decode cX11_typeOf 260 = .ok (.iaload, 1) := by decide +kernel
theorem dX11_typeOf_261 : decode cX11_typeOf 261 = .ok (.istore 6, 2) := by decide +kernel
theorem dX11_typeOf_263 : decode cX11_typeOf 263 = .ok (.iload 5, 2) := by decide +kernel
theorem dX11_typeOf_265 : decode cX11_typeOf 265 = .ok (.ifCond .eq 23, 3) := by decide +kernel
theorem dX11_typeOf_268 : decode cX11_typeOf 268 = .ok (.iload 5, 2) := by decide +kernel
theorem dX11_typeOf_270 : decode cX11_typeOf 270 = .ok (.iload 6, 2) := by decide +kernel
theorem dX11_typeOf_272 : decode cX11_typeOf 272 = .ok (.if_icmp .eq 16, 3) := by decide +kernel
theorem dX11_typeOf_275 : decode cX11_typeOf 275 = .ok (.aload_n 0, 1) := by decide +kernel
theorem dX11_typeOf_276 : decode cX11_typeOf 276 = .ok (.aload_n 0, 1) := by decide +kernel
theorem dX11_typeOf_277 : decode cX11_typeOf 277 = .ok (.getfield 126, 3) := by decide +kernel
theorem dX11_typeOf_280 : decode cX11_typeOf 280 = .ok (.aload_n 0, 1) := by decide +kernel
theorem dX11_typeOf_281 : decode cX11_typeOf 281 = .ok (.getfield 265, 3) := by decide +kernel
theorem dX11_typeOf_284 : decode cX11_typeOf 284 = .ok (.iaload, 1) := by decide +kernel
theorem dX11_typeOf_285 : decode cX11_typeOf 285 = .ok (.invokevirtual 268, 3) := by decide +kernel
theorem dX11_typeOf_288 : decode cX11_typeOf 288 = .ok (.aload_n 0, 1) := by decide +kernel
theorem dX11_typeOf_289 : decode cX11_typeOf 289 = .ok (.dup, 1) := by decide +kernel
theorem dX11_typeOf_290 : decode cX11_typeOf 290 = .ok (.getfield 265, 3) := by decide +kernel
theorem dX11_typeOf_293 : decode cX11_typeOf 293 = .ok (.iconst 1, 1) := by decide +kernel
theorem dX11_typeOf_294 : decode cX11_typeOf 294 = .ok (.isub, 1) := by decide +kernel
theorem dX11_typeOf_295 : decode cX11_typeOf 295 = .ok (.putfield 265, 3) := by decide +kernel
theorem dX11_typeOf_298 : decode cX11_typeOf 298 = .ok (.aload_n 0, 1) := by decide +kernel
theorem dX11_typeOf_299 : decode cX11_typeOf 299 = .ok (.iload 6, 2) := by decide +kernel
theorem dX11_typeOf_301 : decode cX11_typeOf 301 = .ok (.bipush 116, 2) := by decide +kernel
theorem dX11_typeOf_303 : decode cX11_typeOf 303 = .ok (.if_icmp .ne 8, 3) := by decide +kernel
theorem dX11_typeOf_306 : decode cX11_typeOf 306 = .ok (.bipush 110, 2) := by decide +kernel
theorem dX11_typeOf_308 : decode cX11_typeOf 308 = .ok (.goto 5, 3) := by decide +kernel
theorem dX11_typeOf_311 : decode cX11_typeOf 311 = .ok (.bipush 116, 2) := by decide +kernel
theorem dX11_typeOf_313 : decode cX11_typeOf 313 = .ok (.invokevirtual 271, 3) := by decide +kernel
theorem dX11_typeOf_316 : decode cX11_typeOf 316 = .ok (.goto 35, 3) := by decide +kernel
theorem dX11_typeOf_319 : decode cX11_typeOf 319 = .ok (.aload_n 0, 1) := by decide +kernel
theorem dX11_typeOf_320 : decode cX11_typeOf 320 = .ok (.getfield 117, 3) := by decide +kernel
theorem dX11_typeOf_323 : decode cX11_typeOf 323 = .ok (.aload_n 0, 1) := by decide +kernel
theorem dX11_typeOf_324 : decode cX11_typeOf 324 = .ok (.getfield 265, 3) := by decide +kernel
theorem dX11_typeOf_327 : decode cX11_typeOf 327 = .ok (.aload_n 0, 1) := by decide +kernel
theorem dX11_typeOf_328 : decode cX11_typeOf 328 = .ok (.getfield 51, 3) := by decide +kernel
theorem dX11_typeOf_331 : decode cX11_typeOf 331 = .ok (.iload 4, 2) := by decide +kernel
theorem dX11_typeOf_333 : decode cX11_typeOf 333 = .ok (.iaload, 1) := by decide +kernel
theorem dX11_typeOf_334 : decode cX11_typeOf 334 = .ok (.iastore, 1) := by decide +kernel
theorem dX11_typeOf_335 : decode cX11_typeOf 335 = .ok (.aload_n 0, 1) := by decide +kernel
theorem dX11_typeOf_336 : decode cX11_typeOf 336 = .ok (.getfield 120, 3) := by decide +kernel
theorem dX11_typeOf_339 : decode cX11_typeOf 339 = .ok (.aload_n 0, 1) := by decide +kernel
theorem dX11_typeOf_340 : decode cX11_typeOf 340 = .ok (.getfield 265, 3) := by decide +kernel
theorem dX11_typeOf_343 : decode cX11_typeOf 343 = .ok (.aload_n 0, 1) := by decide +kernel
theorem dX11_typeOf_344 : decode cX11_typeOf 344 = .ok (.getfield 54, 3) := by decide +kernel
theorem dX11_typeOf_347 : decode cX11_typeOf 347 = .ok (.iload 4, 2) := by decide +kernel
theorem dX11_typeOf_349 : decode cX11_typeOf 349 = .ok (.iaload, 1) := by decide +kernel
theorem dX11_typeOf_350 : decode cX11_typeOf 350 = .ok (.iastore, 1) := by decide +kernel
theorem dX11_typeOf_351 : decode cX11_typeOf 351 = .ok (.iinc 3 1, 3) := by decide +kernel
theorem dX11_typeOf_354 : decode cX11_typeOf 354 = .ok (.goto (-323), 3) := by decide +kernel
theorem dX11_typeOf_357 : decode cX11_typeOf 357 = .ok (.aload_n 0, 1) := by decide +kernel
theorem dX11_typeOf_358 : decode cX11_typeOf 358 = .ok (.getfield 114, 3) := by decide +kernel
theorem dX11_typeOf_361 : decode cX11_typeOf 361 = .ok (.iconst 0, 1) := by decide +kernel
theorem dX11_typeOf_362 : decode cX11_typeOf 362 = .ok (.iaload, 1) := by decide +kernel
theorem dX11_typeOf_363 : decode cX11_typeOf 363 = .ok (.ireturn, 1) := by decide +kernel
theorem dX11_typeOfName_0 : decode cX11_typeOfName 0 = .ok (.aload_n 0, 1) := by decide +kernel
theorem dX11_typeOfName_1 : decode cX11_typeOfName 1 = .ok (.iload_n 1, 1) := by decide +kernel
theorem dX11_typeOfName_2 : decode cX11_typeOfName 2 = .ok (.aload_n 0, 1) := by decide +kernel
theorem dX11_typeOfName_3 : decode cX11_typeOfName 3 = .ok (.iload_n 1, 1) := by decide +kernel
theorem dX11_typeOfName_4 : decode cX11_typeOfName 4 = .ok (.iload_n 2, 1) := by decide +kernel
theorem dX11_typeOfName_5 : decode cX11_typeOfName 5 = .ok (.invokevirtual 274, 3) := by decide +kernel
theorem dX11_typeOfName_8 : decode cX11_typeOfName 8 = .ok (.invokevirtual 281, 3) := by decide +kernel
theorem dX11_typeOfName_11 : decode cX11_typeOfName 11 = .ok (.istore_n 3, 1) := by decide +kernel
theorem dX11_typeOfName_12 : decode cX11_typeOfName 12 = .ok (.iload_n 3, 1) := by decide +kernel
theorem dX11_typeOfName_13 : decode cX11_typeOfName 13 = .ok (.iconst (-1), 1) := by decide +kernel
theorem dX11_typeOfName_14 : decode cX11_typeOfName 14 = .ok (.if_icmp .ne 93, 3) := by decide +kernel
theorem dX11_typeOfName_17 : decode cX11_typeOfName 17 = .ok (.iconst 0, 1) := by decide +kernel
theorem dX11_typeOfName_18 : decode cX11_typeOfName 18 = .ok (.istore 4, 2) := by decide +kernel
theorem dX11_typeOfName_20 : decode cX11_typeOfName 20 = .ok (.iconst 0, 1) := by decide +kernel
theorem dX11_typeOfName_21 : decode cX11_typeOfName 21 = .ok (.istore 5, 2) := by decide +kernel
theorem dX11_typeOfName_23 : decode cX11_typeOfName 23 = .ok (.iload 5, 2) := by decide +kernel
theorem dX11_typeOfName_25 : decode cX11_typeOfName 25 = .ok (.aload_n 0, 1) := by decide +kernel
theorem dX11_typeOfName_26 : decode cX11_typeOfName 26 = .ok (.getfield 30, 3) := by decide +kernel
theorem dX11_typeOfName_29 : decode cX11_typeOfName 29 = .ok (.iload_n 1, 1) := by decide +kernel
theorem dX11_typeOfName_30 : decode cX11_typeOfName 30 = .ok (.iaload, 1) := by decide +kernel
theorem dX11_typeOfName_31 : decode cX11_typeOfName 31 = .ok (.if_icmp .ge 45, 3) := by decide +kernel
theorem dX11_typeOfName_34 : decode cX11_typeOfName 34 = .ok (.aload_n 0, 1) := by decide +kernel
theorem dX11_typeOfName_35 : decode cX11_typeOfName 35 = .ok (.getfield 258, 3) := by decide +kernel
theorem dX11_typeOfName_38 : decode cX11_typeOfName 38 = .ok (.ifCond .eq 38, 3) := by decide +kernel
theorem dX11_typeOfName_41 : decode cX11_typeOfName 41 = .ok (.iload 4, 2) := by decide +kernel
theorem dX11_typeOfName_43 : decode cX11_typeOfName 43 = .ok (.ifCond .ne 20, 3) := by decide +kernel
theorem dX11_typeOfName_46 : decode cX11_typeOfName 46 = .ok (.aload_n 0, 1) := by decide +kernel
theorem dX11_typeOfName_47 : decode cX11_typeOfName 47 = .ok (.getfield 108, 3) := by decide +kernel
theorem dX11_typeOfName_50 : decode cX11_typeOfName 50 = .ok (.iload 5, 2) := by decide +kernel
theorem dX11_typeOfName_52 : decode cX11_typeOfName 52 = .ok (.laload, 1) := by decide +kernel
theorem dX11_typeOfName_53 : decode cX11_typeOfName 53 = .ok (.aload_n 0, 1) := by decide +kernel
theorem dX11_typeOfName_54 : decode cX11_typeOfName 54 = .ok (.iload_n 1, 1) := by decide +kernel
theorem dX11_typeOfName_55 : decode cX11_typeOfName 55 = .ok (.iload_n 2, 1) := by decide +kernel
theorem dX11_typeOfName_56 : decode cX11_typeOfName 56 = .ok (.invokevirtual 274, 3) := by decide +kernel
theorem dX11_typeOfName_59 : decode cX11_typeOfName 59 = .ok (.lcmp, 1) := by decide +kernel
theorem dX11_typeOfName_60 : decode cX11_typeOfName 60 = .ok (.ifCond .ne 7, 3) := by decide +kernel
theorem dX11_typeOfName_63 : decode cX11_typeOfName 63 = .ok (.iconst 1, 1) := by decide +kernel
theorem dX11_typeOfName_64 : decode cX11_typeOfName 64 = .ok (.goto 4, 3) := by decide +kernel
theorem dX11_typeOfName_67 : decode cX11_typeOfName 67 = .ok (.iconst 0, 1) := by decide +kernel
theorem dX11_typeOfName_68 : decode cX11_typeOfName 68 = .ok (.istore 4, 2) := by decide +kernel
theorem dX11_typeOfName_70 : decode cX11_typeOfName 70 = .ok (.iinc 5 1, 3) := by decide +kernel
theorem dX11_typeOfName_73 : decode cX11_typeOfName 73 = .ok (.goto (-50), 3) := by decide +kernel
theorem dX11_typeOfName_76 : decode cX11_typeOfName 76 = .ok (.aload_n 0, 1) := by decide +kernel
theorem dX11_typeOfName_77 : decode cX11_typeOfName 77 = .ok (.getfield 258, 3) := by decide +kernel
theorem dX11_typeOfName_80 : decode cX11_typeOfName 80 = .ok (.ifCond .eq 25, 3) := by decide +kernel
theorem dX11_typeOfName_83 : decode cX11_typeOfName 83 = .ok (.iload 4, 2) := by decide +kernel
theorem dX11_typeOfName_85 : decode cX11_typeOfName 85 = .ok (.ifCond .ne 20, 3) := by decide +kernel
theorem dX11_typeOfName_88 : decode cX11_typeOfName 88 = .ok (.aload_n 0, 1) := by decide +kernel
theorem dX11_typeOfName_89 : decode cX11_typeOfName 89 = .ok (.iconst 2, 1) := by decide +kernel
theorem dX11_typeOfName_90 : decode cX11_typeOfName 90 = .ok (.aload_n 0, 1) := by decide +kernel
theorem dX11_typeOfName_91 : decode cX11_typeOfName 91 = .ok (.getfield 54, 3) := by decide +kernel
theorem dX11_typeOfName_94 : decode cX11_typeOfName 94 = .ok (.sipush 400, 3) := by decide +kernel
theorem dX11_typeOfName_97 : decode cX11_typeOfName 97 = .ok (.iload_n 1, 1) := by decide +kernel
theorem dX11_typeOfName_98 : decode cX11_typeOfName 98 = .ok (.imul, 1) := by decide +kernel
theorem dX11_typeOfName_99 : decode cX11_typeOfName 99 = .ok (.iload_n 2, 1) := by decide +kernel
theorem dX11_typeOfName_100 : decode cX11_typeOfName 100 = .ok (.iadd, 1) := by decide +kernel
theorem dX11_typeOfName_101 : decode cX11_typeOfName 101 = .ok (.iaload, 1) := by decide +kernel
theorem dX11_typeOfName_102 : decode cX11_typeOfName 102 = .ok (.invokevirtual 262, 3) := by decide +kernel
theorem dX11_typeOfName_105 : decode cX11_typeOfName 105 = .ok (.iconst 0, 1) := by decide +kernel
theorem dX11_typeOfName_106 : decode cX11_typeOfName 106 = .ok (.ireturn, 1) := by decide +kernel
theorem dX11_typeOfName_107 : decode cX11_typeOfName 107 = .ok (.aload_n 0, 1) := by decide +kernel
theorem dX11_typeOfName_108 : decode cX11_typeOfName 108 = .ok (.iload_n 3, 1) := by decide +kernel
theorem dX11_typeOfName_109 : decode cX11_typeOfName 109 = .ok (.aload_n 0, 1) := by decide +kernel
theorem dX11_typeOfName_110 : decode cX11_typeOfName 110 = .ok (.iload_n 1, 1) := by decide +kernel
theorem dX11_typeOfName_111 : decode cX11_typeOfName 111 = .ok (.iload_n 2, 1) := by decide +kernel
theorem dX11_typeOfName_112 : decode cX11_typeOfName 112 = .ok (.iconst 2, 1) := by decide +kernel
theorem dX11_typeOfName_113 : decode cX11_typeOfName 113 = .ok (.iadd, 1) := by decide +kernel
theorem dX11_typeOfName_114 : decode cX11_typeOfName 114 = .ok (.invokevirtual 274, 3) := by decide +kernel
theorem dX11_typeOfName_117 : decode cX11_typeOfName 117 = .ok (.invokevirtual 285, 3) := by decide +kernel
theorem dX11_typeOfName_120 : decode cX11_typeOfName 120 = .ok (.istore 4, 2) := by decide +kernel
theorem dX11_typeOfName_122 : decode cX11_typeOfName 122 = .ok (.iload 4, 2) := by decide +kernel
theorem dX11_typeOfName_124 : decode cX11_typeOfName 124 = .ok (.iconst (-1), 1) := by decide +kernel
theorem dX11_typeOfName_125 : decode cX11_typeOfName 125 = .ok (.if_icmp .ne 31, 3) := by decide +kernel
theorem dX11_typeOfName_128 : decode cX11_typeOfName 128 = .ok (.aload_n 0, 1) := by decide +kernel
theorem dX11_typeOfName_129 : decode cX11_typeOfName 129 = .ok (.getfield 258, 3) := by decide +kernel
theorem dX11_typeOfName_132 : decode cX11_typeOfName 132 = .ok (.ifCond .eq 22, 3) := by decide +kernel
theorem dX11_typeOfName_135 : decode cX11_typeOfName 135 = .ok (.aload_n 0, 1) := by decide +kernel
theorem dX11_typeOfName_136 : decode cX11_typeOfName 136 = .ok (.iconst 2, 1) := by decide +kernel
theorem dX11_typeOfName_137 : decode cX11_typeOfName 137 = .ok (.aload_n 0, 1) := by decide +kernel
theorem dX11_typeOfName_138 : decode cX11_typeOfName 138 = .ok (.getfield 54, 3) := by decide +kernel
theorem dX11_typeOfName_141 : decode cX11_typeOfName 141 = .ok (.sipush 400, 3) := by decide +kernel
theorem dX11_typeOfName_144 : decode cX11_typeOfName 144 = .ok (.iload_n 1, 1) := by decide +kernel
theorem dX11_typeOfName_145 : decode cX11_typeOfName 145 = .ok (.imul, 1) := by decide +kernel
theorem dX11_typeOfName_146 : decode cX11_typeOfName 146 = .ok (.iload_n 2, 1) := by decide +kernel
theorem dX11_typeOfName_147 : decode cX11_typeOfName 147 = .ok (.iadd, 1) := by decide +kernel
theorem dX11_typeOfName_148 : decode cX11_typeOfName 148 = .ok (.iconst 2, 1) := by decide +kernel
theorem dX11_typeOfName_149 : decode cX11_typeOfName 149 = .ok (.iadd, 1) := by decide +kernel
theorem dX11_typeOfName_150 : decode cX11_typeOfName 150 = .ok (.iaload, 1) := by decide +kernel
theorem dX11_typeOfName_151 : decode cX11_typeOfName 151 = .ok (.invokevirtual 262, 3) := by decide +kernel
theorem dX11_typeOfName_154 : decode cX11_typeOfName 154 = .ok (.iconst 0, 1) := by decide +kernel
theorem dX11_typeOfName_155 : decode cX11_typeOfName 155 = .ok (.ireturn, 1) := by decide +kernel
theorem dX11_typeOfName_156 : decode cX11_typeOfName 156 = .ok (.aload_n 0, 1) := by decide +kernel
theorem dX11_typeOfName_157 : decode cX11_typeOfName 157 = .ok (.getfield 258, 3) := by decide +kernel
theorem dX11_typeOfName_160 : decode cX11_typeOfName 160 = .ok (.ifCond .eq 18, 3) := by decide +kernel
theorem dX11_typeOfName_163 : decode cX11_typeOfName 163 = .ok (.aload_n 0, 1) := by decide +kernel
theorem dX11_typeOfName_164 : decode cX11_typeOfName 164 = .ok (.getfield 27, 3) := by decide +kernel
theorem dX11_typeOfName_167 : decode cX11_typeOfName 167 = .ok (.bipush 8, 2) := by decide +kernel
theorem dX11_typeOfName_169 : decode cX11_typeOfName 169 = .ok (.iload_n 3, 1) := by decide +kernel
theorem dX11_typeOfName_170 : decode cX11_typeOfName 170 = .ok (.imul, 1) := by decide +kernel
theorem dX11_typeOfName_171 : decode cX11_typeOfName 171 = .ok (.iload 4, 2) := by decide +kernel
theorem dX11_typeOfName_173 : decode cX11_typeOfName 173 = .ok (.iadd, 1) := by decide +kernel
theorem dX11_typeOfName_174 : decode cX11_typeOfName 174 = .ok (.iaload, 1) := by decide +kernel
theorem dX11_typeOfName_175 : decode cX11_typeOfName 175 = .ok (.goto 15, 3) := by decide +kernel
theorem dX11_typeOfName_178 : decode cX11_typeOfName 178 = .ok (.aload_n 0, 1) := by decide +kernel
theorem dX11_typeOfName_179 : decode cX11_typeOfName 179 = .ok (.getfield 129, 3) := by decide +kernel
theorem dX11_typeOfName_182 : decode cX11_typeOfName 182 = .ok (.bipush 8, 2) := by decide +kernel
theorem dX11_typeOfName_184 : decode cX11_typeOfName 184 = .ok (.iload_n 3, 1) := by decide +kernel
theorem dX11_typeOfName_185 : decode cX11_typeOfName 185 = .ok (.imul, 1) := by decide +kernel
theorem dX11_typeOfName_186 : decode cX11_typeOfName 186 = .ok (.iload 4, 2) := by decide +kernel
theorem dX11_typeOfName_188 : decode cX11_typeOfName 188 = .ok (.iadd, 1) := by decide +kernel
theorem dX11_typeOfName_189 : decode cX11_typeOfName 189 = .ok (.iaload, 1) := by decide +kernel
theorem dX11_typeOfName_190 : decode cX11_typeOfName 190 = .ok (.ireturn, 1) := by decide +kernel
theorem dX11_hasWhere_0 : decode cX11_hasWhere 0 = .ok (.aload_n 0, 1) := by decide +kernel
theorem dX11_hasWhere_1 : decode cX11_hasWhere 1 = .ok (.getfield 66, 3) := by decide +kernel
theorem dX11_hasWhere_4 : decode cX11_hasWhere 4 = .ok (.bipush 8, 2) := by decide +kernel
theorem dX11_hasWhere_6 : decode cX11_hasWhere 6 = .ok (.iload_n 1, 1) := by decide +kernel
theorem dX11_hasWhere_7 : decode cX11_hasWhere 7 = .ok (.imul, 1) := by decide +kernel
theorem dX11_hasWhere_8 : decode cX11_hasWhere 8 = .ok (.bipush 7, 2) := by decide +kernel
theorem dX11_hasWhere_10 : decode cX11_hasWhere 10 = .ok (.iadd, 1) := by decide +kernel
theorem dX11_hasWhere_11 : decode cX11_hasWhere 11 = .ok (.iaload, 1) := by decide +kernel
theorem dX11_hasWhere_12 : decode cX11_hasWhere 12 = .ok (.ifCond .le 7, 3) := by decide +kernel
theorem dX11_hasWhere_15 : decode cX11_hasWhere 15 = .ok (.iconst 1, 1) := by decide +kernel
theorem dX11_hasWhere_16 : decode cX11_hasWhere 16 = .ok (.goto 4, 3) := by decide +kernel
theorem dX11_hasWhere_19 : decode cX11_hasWhere 19 = .ok (.iconst 0, 1) := by decide +kernel
theorem dX11_hasWhere_20 : decode cX11_hasWhere 20 = .ok (.ireturn, 1) := by decide +kernel
theorem dX11_meant_0 : decode cX11_meant 0 = .ok (.aload_n 0, 1) := by decide +kernel
theorem dX11_meant_1 : decode cX11_meant 1 = .ok (.getfield 159, 3) := by decide +kernel
theorem dX11_meant_4 : decode cX11_meant 4 = .ok (.istore_n 1, 1) := by decide +kernel
theorem dX11_meant_5 : decode cX11_meant 5 = .ok (.aload_n 0, 1) := by decide +kernel
theorem dX11_meant_6 : decode cX11_meant 6 = .ok (.aload_n 0, 1) := by decide +kernel
theorem dX11_meant_7 : decode cX11_meant 7 = .ok (.getfield 13, 3) := by decide +kernel
theorem dX11_meant_10 : decode cX11_meant 10 = .ok (.iload_n 1, 1) := by decide +kernel
theorem dX11_meant_11 : decode cX11_meant 11 = .ok (.laload, 1) := by decide +kernel
theorem dX11_meant_12 : decode cX11_meant 12 = .ok (.invokevirtual 288, 3) := by decide +kernel
theorem dX11_meant_15 : decode cX11_meant 15 = .ok (.iconst (-1), 1) := by decide +kernel
theorem dX11_meant_16 : decode cX11_meant 16 = .ok (.if_icmp .eq 20, 3) := by decide +kernel
theorem dX11_meant_19 : decode cX11_meant 19 = .ok (.aload_n 0, 1) := by decide +kernel
theorem dX11_meant_20 : decode cX11_meant 20 = .ok (.iconst 4, 1) := by decide +kernel
theorem dX11_meant_21 : decode cX11_meant 21 = .ok (.aload_n 0, 1) := by decide +kernel
theorem dX11_meant_22 : decode cX11_meant 22 = .ok (.getfield 54, 3) := by decide +kernel
theorem dX11_meant_25 : decode cX11_meant 25 = .ok (.sipush 400, 3) := by decide +kernel
theorem dX11_meant_28 : decode cX11_meant 28 = .ok (.iload_n 1, 1) := by decide +kernel
theorem dX11_meant_29 : decode cX11_meant 29 = .ok (.imul, 1) := by decide +kernel
theorem dX11_meant_30 : decode cX11_meant 30 = .ok (.iconst 1, 1) := by decide +kernel
theorem dX11_meant_31 : decode cX11_meant 31 = .ok (.iadd, 1) := by decide +kernel
theorem dX11_meant_32 : decode cX11_meant 32 = .ok (.iaload, 1) := by decide +kernel
theorem dX11_meant_33 : decode cX11_meant 33 = .ok (.invokevirtual 262, 3) := by decide +kernel
theorem dX11_meant_36 : decode cX11_meant 36 = .ok (.iconst 3, 1) := by decide +kernel
theorem dX11_meant_37 : decode cX11_meant 37 = .ok (.istore_n 2, 1) := by decide +kernel
theorem dX11_meant_38 : decode cX11_meant 38 = .ok (.iconst 0, 1) := by decide +kernel
theorem dX11_meant_39 : decode cX11_meant 39 = .ok (.istore_n 3, 1) := by decide +kernel
theorem dX11_meant_40 : decode cX11_meant 40 = .ok (.iload_n 3, 1) := by decide +kernel
theorem dX11_meant_41 : decode cX11_meant 41 = .ok (.aload_n 0, 1) := by decide +kernel
theorem dX11_meant_42 : decode cX11_meant 42 = .ok (.getfield 21, 3) := by decide +kernel
theorem dX11_meant_45 : decode cX11_meant 45 = .ok (.iload_n 1, 1) := by decide +kernel
theorem dX11_meant_46 : decode cX11_meant 46 = .ok (.iaload, 1) := by decide +kernel
theorem dX11_meant_47 : decode cX11_meant 47 = .ok (.if_icmp .ge 97, 3) := by decide +kernel
theorem dX11_meant_50 : decode cX11_meant 50 = .ok (.iconst 0, 1) := by decide +kernel
theorem dX11_meant_51 : decode cX11_meant 51 = .ok (.istore 4, 2) := by decide +kernel
theorem dX11_meant_53 : decode cX11_meant 53 = .ok (.iload 4, 2) := by decide +kernel
theorem dX11_meant_55 : decode cX11_meant 55 = .ok (.iload_n 3, 1) := by decide +kernel
theorem dX11_meant_56 : decode cX11_meant 56 = .ok (.if_icmp .ge 53, 3) := by decide +kernel
theorem dX11_meant_59 : decode cX11_meant 59 = .ok (.aload_n 0, 1) := by decide +kernel
theorem dX11_meant_60 : decode cX11_meant 60 = .ok (.getfield 24, 3) := by decide +kernel
theorem dX11_meant_63 : decode cX11_meant 63 = .ok (.bipush 8, 2) := by decide +kernel
theorem dX11_meant_65 : decode cX11_meant 65 = .ok (.iload_n 1, 1) := by decide +kernel
theorem dX11_meant_66 : decode cX11_meant 66 = .ok (.imul, 1) := by decide +kernel
theorem dX11_meant_67 : decode cX11_meant 67 = .ok (.iload 4, 2) := by decide +kernel
theorem dX11_meant_69 : decode cX11_meant 69 = .ok (.iadd, 1) := by decide +kernel
theorem dX11_meant_70 : decode cX11_meant 70 = .ok (.laload, 1) := by decide +kernel
theorem dX11_meant_71 : decode cX11_meant 71 = .ok (.aload_n 0, 1) := by decide +kernel
theorem dX11_meant_72 : decode cX11_meant 72 = .ok (.getfield 24, 3) := by decide +kernel
theorem dX11_meant_75 : decode cX11_meant 75 = .ok (.bipush 8, 2) := by decide +kernel
theorem dX11_meant_77 : decode cX11_meant 77 = .ok (.iload_n 1, 1) := by decide +kernel
theorem dX11_meant_78 : decode cX11_meant 78 = .ok (.imul, 1) := by decide +kernel
theorem dX11_meant_79 : decode cX11_meant 79 = .ok (.iload_n 3, 1) := by decide +kernel
theorem dX11_meant_80 : decode cX11_meant 80 = .ok (.iadd, 1) := by decide +kernel
theorem dX11_meant_81 : decode cX11_meant 81 = .ok (.laload, 1) := by decide +kernel
theorem dX11_meant_82 : decode cX11_meant 82 = .ok (.lcmp, 1) := by decide +kernel
theorem dX11_meant_83 : decode cX11_meant 83 = .ok (.ifCond .ne 20, 3) := by decide +kernel
theorem dX11_meant_86 : decode cX11_meant 86 = .ok (.aload_n 0, 1) := by decide +kernel
theorem dX11_meant_87 : decode cX11_meant 87 = .ok (.iconst 4, 1) := by decide +kernel
theorem dX11_meant_88 : decode cX11_meant 88 = .ok (.aload_n 0, 1) := by decide +kernel
theorem dX11_meant_89 : decode cX11_meant 89 = .ok (.getfield 54, 3) := by decide +kernel
theorem dX11_meant_92 : decode cX11_meant 92 = .ok (.sipush 400, 3) := by decide +kernel
theorem dX11_meant_95 : decode cX11_meant 95 = .ok (.iload_n 1, 1) := by decide +kernel
theorem dX11_meant_96 : decode cX11_meant 96 = .ok (.imul, 1) := by decide +kernel
theorem dX11_meant_97 : decode cX11_meant 97 = .ok (.iload_n 2, 1) := by decide +kernel
theorem dX11_meant_98 : decode cX11_meant 98 = .ok (.iadd, 1) := by decide +kernel
theorem dX11_meant_99 : decode cX11_meant 99 = .ok (.iaload, 1) := by decide +kernel
theorem dX11_meant_100 : decode cX11_meant 100 = .ok (.invokevirtual 262, 3) := by decide +kernel
theorem dX11_meant_103 : decode cX11_meant 103 = .ok (.iinc 4 1, 3) := by decide +kernel
theorem dX11_meant_106 : decode cX11_meant 106 = .ok (.goto (-53), 3) := by decide +kernel
theorem dX11_meant_109 : decode cX11_meant 109 = .ok (.aload_n 0, 1) := by decide +kernel
theorem dX11_meant_110 : decode cX11_meant 110 = .ok (.getfield 17, 3) := by decide +kernel
theorem dX11_meant_113 : decode cX11_meant 113 = .ok (.iload_n 1, 1) := by decide +kernel
theorem dX11_meant_114 : decode cX11_meant 114 = .ok (.iaload, 1) := by decide +kernel
theorem dX11_meant_115 : decode cX11_meant 115 = .ok (.ifCond .ne 9, 3) := by decide +kernel
theorem dX11_meant_118 : decode cX11_meant 118 = .ok (.iload_n 2, 1) := by decide +kernel
theorem dX11_meant_119 : decode cX11_meant 119 = .ok (.iconst 3, 1) := by decide +kernel
theorem dX11_meant_120 : decode cX11_meant 120 = .ok (.iadd, 1) := by decide +kernel
theorem dX11_meant_121 : decode cX11_meant 121 = .ok (.goto 16, 3) := by decide +kernel
theorem dX11_meant_124 : decode cX11_meant 124 = .ok (.aload_n 0, 1) := by decide +kernel
theorem dX11_meant_125 : decode cX11_meant 125 = .ok (.getfield 66, 3) := by decide +kernel
theorem dX11_meant_128 : decode cX11_meant 128 = .ok (.bipush 8, 2) := by decide +kernel
theorem dX11_meant_130 : decode cX11_meant 130 = .ok (.iload_n 1, 1) := by decide +kernel
theorem dX11_meant_131 : decode cX11_meant 131 = .ok (.imul, 1) := by decide +kernel
theorem dX11_meant_132 : decode cX11_meant 132 = .ok (.iload_n 3, 1) := by decide +kernel
theorem dX11_meant_133 : decode cX11_meant 133 = .ok (.iadd, 1) := by decide +kernel
theorem dX11_meant_134 : decode cX11_meant 134 = .ok (.iaload, 1) := by decide +kernel
theorem dX11_meant_135 : decode cX11_meant 135 = .ok (.iconst 1, 1) := by decide +kernel
theorem dX11_meant_136 : decode cX11_meant 136 = .ok (.iadd, 1) := by decide +kernel
theorem dX11_meant_137 : decode cX11_meant 137 = .ok (.istore_n 2, 1) := by decide +kernel
theorem dX11_meant_138 : decode cX11_meant 138 = .ok (.iinc 3 1, 3) := by decide +kernel
theorem dX11_meant_141 : decode cX11_meant 141 = .ok (.goto (-101), 3) := by decide +kernel
theorem dX11_meant_144 : decode cX11_meant 144 = .ok (.iconst 0, 1) := by decide +kernel
theorem dX11_meant_145 : decode cX11_meant 145 = .ok (.istore_n 3, 1) := by decide +kernel
theorem dX11_meant_146 : decode cX11_meant 146 = .ok (.iload_n 3, 1) := by decide +kernel
theorem dX11_meant_147 : decode cX11_meant 147 = .ok (.aload_n 0, 1) := by decide +kernel
theorem dX11_meant_148 : decode cX11_meant 148 = .ok (.getfield 30, 3) := by decide +kernel
theorem dX11_meant_151 : decode cX11_meant 151 = .ok (.iload_n 1, 1) := by decide +kernel
theorem dX11_meant_152 : decode cX11_meant 152 = .ok (.iaload, 1) := by decide +kernel
theorem dX11_meant_153 : decode cX11_meant 153 = .ok (.if_icmp .ge 97, 3) := by decide +kernel
theorem dX11_meant_156 : decode cX11_meant 156 = .ok (.aload_n 0, 1) := by decide +kernel
theorem dX11_meant_157 : decode cX11_meant 157 = .ok (.getfield 33, 3) := by decide +kernel
theorem dX11_meant_160 : decode cX11_meant 160 = .ok (.iconst 3, 1) := by decide +kernel
theorem dX11_meant_161 : decode cX11_meant 161 = .ok (.iload_n 1, 1) := by decide +kernel
theorem dX11_meant_162 : decode cX11_meant 162 = .ok (.imul, 1) := by decide +kernel
theorem dX11_meant_163 : decode cX11_meant 163 = .ok (.iload_n 3, 1) := by decide +kernel
theorem dX11_meant_164 : decode cX11_meant 164 = .ok (.iadd, 1) := by decide +kernel
theorem dX11_meant_165 : decode cX11_meant 165 = .ok (.aload_n 0, 1) := by decide +kernel
theorem dX11_meant_166 : decode cX11_meant 166 = .ok (.aload_n 0, 1) := by decide +kernel
theorem dX11_meant_167 : decode cX11_meant 167 = .ok (.getfield 108, 3) := by decide +kernel
theorem dX11_meant_170 : decode cX11_meant 170 = .ok (.iload_n 3, 1) := by decide +kernel
theorem dX11_meant_171 : decode cX11_meant 171 = .ok (.laload, 1) := by decide +kernel
theorem dX11_meant_172 : decode cX11_meant 172 = .ok (.invokevirtual 288, 3) := by decide +kernel
theorem dX11_meant_175 : decode cX11_meant 175 = .ok (.iastore, 1) := by decide +kernel
theorem dX11_meant_176 : decode cX11_meant 176 = .ok (.aload_n 0, 1) := by decide +kernel
theorem dX11_meant_177 : decode cX11_meant 177 = .ok (.getfield 33, 3) := by decide +kernel
theorem dX11_meant_180 : decode cX11_meant 180 = .ok (.iconst 3, 1) := by decide +kernel
theorem dX11_meant_181 : decode cX11_meant 181 = .ok (.iload_n 1, 1) := by decide +kernel
theorem dX11_meant_182 : decode cX11_meant 182 = .ok (.imul, 1) := by decide +kernel
theorem dX11_meant_183 : decode cX11_meant 183 = .ok (.iload_n 3, 1) := by decide +kernel
theorem dX11_meant_184 : decode cX11_meant 184 = .ok (.iadd, 1) := by decide +kernel
theorem dX11_meant_185 : decode cX11_meant 185 = .ok (.iaload, 1) := by decide +kernel
theorem dX11_meant_186 : decode cX11_meant 186 = .ok (.iconst (-1), 1) := by decide +kernel
theorem dX11_meant_187 : decode cX11_meant 187 = .ok (.if_icmp .ne 14, 3) := by decide +kernel
theorem dX11_meant_190 : decode cX11_meant 190 = .ok (.aload_n 0, 1) := by decide +kernel
theorem dX11_meant_191 : decode cX11_meant 191 = .ok (.iconst 2, 1) := by decide +kernel
theorem dX11_meant_192 : decode cX11_meant 192 = .ok (.aload_n 0, 1) := by decide +kernel
theorem dX11_meant_193 : decode cX11_meant 193 = .ok (.getfield 111, 3) := by decide +kernel
theorem dX11_meant_196 : decode cX11_meant 196 = .ok (.iload_n 3, 1) := by decide +kernel
theorem dX11_meant_197 : decode cX11_meant 197 = .ok (.iaload, 1) := by decide +kernel
theorem dX11_meant_198 : decode cX11_meant 198 = .ok (.invokevirtual 262, 3) := by decide +kernel
theorem dX11_meant_201 : decode cX11_meant 201 = .ok (.iconst 0, 1) := by decide +kernel
theorem dX11_meant_202 : decode cX11_meant 202 = .ok (.istore 4, 2) := by decide +kernel
theorem dX11_meant_204 : decode cX11_meant 204 = .ok (.iload 4, 2) := by decide +kernel
theorem dX11_meant_206 : decode cX11_meant 206 = .ok (.iload_n 3, 1) := by decide +kernel
theorem dX11_meant_207 : decode cX11_meant 207 = .ok (.if_icmp .ge 37, 3) := by decide +kernel
theorem dX11_meant_210 : decode cX11_meant 210 = .ok (.aload_n 0, 1) := by decide +kernel
theorem dX11_meant_211 : decode cX11_meant 211 = .ok (.getfield 108, 3) := by decide +kernel
theorem dX11_meant_214 : decode cX11_meant 214 = .ok (.iload 4, 2) := by decide +kernel
theorem dX11_meant_216 : decode cX11_meant 216 = .ok (.laload, 1) := by decide +kernel
theorem dX11_meant_217 : decode cX11_meant 217 = .ok (.aload_n 0, 1) := by decide +kernel
theorem dX11_meant_218 : decode cX11_meant 218 = .ok (.getfield 108, 3) := by decide +kernel
theorem dX11_meant_221 : decode cX11_meant 221 = .ok (.iload_n 3, 1) := by decide +kernel
theorem dX11_meant_222 : decode cX11_meant 222 = .ok (.laload, 1) := by decide +kernel
theorem dX11_meant_223 : decode cX11_meant 223 = .ok (.lcmp, 1) := by decide +kernel
theorem dX11_meant_224 : decode cX11_meant 224 = .ok (.ifCond .ne 14, 3) := by decide +kernel
theorem dX11_meant_227 : decode cX11_meant 227 = .ok (.aload_n 0, 1) := by decide +kernel
theorem dX11_meant_228 : decode cX11_meant 228 = .ok (.iconst 4, 1) := by decide +kernel
theorem dX11_meant_229 : decode cX11_meant 229 = .ok (.aload_n 0, 1) := by decide +kernel
theorem dX11_meant_230 : decode cX11_meant 230 = .ok (.getfield 111, 3) := by decide +kernel
theorem dX11_meant_233 : decode cX11_meant 233 = .ok (.iload_n 3, 1) := by decide +kernel
theorem dX11_meant_234 : decode cX11_meant 234 = .ok (.iaload, 1) := by decide +kernel
theorem dX11_meant_235 : decode cX11_meant 235 = .ok (.invokevirtual 262, 3) := by decide +kernel
theorem dX11_meant_238 : decode cX11_meant 238 = .ok (.iinc 4 1, 3) := by decide +kernel
theorem dX11_meant_241 : decode cX11_meant 241 = .ok (.goto (-37), 3) := by decide +kernel
theorem dX11_meant_244 : decode cX11_meant 244 = .ok (.iinc 3 1, 3) := by decide +kernel
theorem dX11_meant_247 : decode cX11_meant 247 = .ok (.goto (-101), 3) := by decide +kernel
theorem dX11_meant_250 : decode cX11_meant 250 = .ok (.aload_n 0, 1) := by decide +kernel
theorem dX11_meant_251 : decode cX11_meant 251 = .ok (.iconst 1, 1) := by decide +kernel
theorem dX11_meant_252 : decode cX11_meant 252 = .ok (.putfield 258, 3) := by decide +kernel
theorem dX11_meant_255 : decode cX11_meant 255 = .ok (.aload_n 0, 1) := by decide +kernel
theorem dX11_meant_256 : decode cX11_meant 256 = .ok (.getfield 17, 3) := by decide +kernel
theorem dX11_meant_259 : decode cX11_meant 259 = .ok (.iload_n 1, 1) := by decide +kernel
theorem dX11_meant_260 : decode cX11_meant 260 = .ok (.iaload, 1) := by decide +kernel
theorem dX11_meant_261 : decode cX11_meant 261 = .ok (.ifCond .le 38, 3) := by decide +kernel
theorem dX11_meant_264 : decode cX11_meant 264 = .ok (.iconst 0, 1) := by decide +kernel
theorem dX11_meant_265 : decode cX11_meant 265 = .ok (.istore_n 3, 1) := by decide +kernel
theorem dX11_meant_266 : decode cX11_meant 266 = .ok (.iload_n 3, 1) := by decide +kernel
theorem dX11_meant_267 : decode cX11_meant 267 = .ok (.aload_n 0, 1) := by decide +kernel
theorem dX11_meant_268 : decode cX11_meant 268 = .ok (.getfield 21, 3) := by decide +kernel
theorem dX11_meant_271 : decode cX11_meant 271 = .ok (.iload_n 1, 1) := by decide +kernel
theorem dX11_meant_272 : decode cX11_meant 272 = .ok (.iaload, 1) := by decide +kernel
theorem dX11_meant_273 : decode cX11_meant 273 = .ok (.if_icmp .ge 26, 3) := by decide +kernel
theorem dX11_meant_276 : decode cX11_meant 276 = .ok (.aload_n 0, 1) := by decide +kernel
theorem dX11_meant_277 : decode cX11_meant 277 = .ok (.getfield 27, 3) := by decide +kernel
theorem dX11_meant_280 : decode cX11_meant 280 = .ok (.bipush 8, 2) := by decide +kernel
theorem dX11_meant_282 : decode cX11_meant 282 = .ok (.iload_n 1, 1) := by decide +kernel
theorem dX11_meant_283 : decode cX11_meant 283 = .ok (.imul, 1) := by decide +kernel
theorem dX11_meant_284 : decode cX11_meant 284 = .ok (.iload_n 3, 1) := by decide +kernel
theorem dX11_meant_285 : decode cX11_meant 285 = .ok (.iadd, 1) := by decide +kernel
theorem dX11_meant_286 : decode cX11_meant 286 = .ok (.aload_n 0, 1) := by decide +kernel
theorem dX11_meant_287 : decode cX11_meant 287 = .ok (.iload_n 1, 1) := by decide +kernel
theorem dX11_meant_288 : decode cX11_meant 288 = .ok (.iload_n 3, 1) := by decide +kernel
theorem dX11_meant_289 : decode cX11_meant 289 = .ok (.invokevirtual 292, 3) := by decide +kernel
theorem dX11_meant_292 : decode cX11_meant 292 = .ok (.iastore, 1) := by decide +kernel
theorem dX11_meant_293 : decode cX11_meant 293 = .ok (.iinc 3 1, 3) := by decide +kernel
theorem dX11_meant_296 : decode cX11_meant 296 = .ok (.goto (-30), 3) := by decide +kernel
theorem dX11_meant_299 : decode cX11_meant 299 = .ok (.aload_n 0, 1) := by decide +kernel
theorem dX11_meant_300 : decode cX11_meant 300 = .ok (.iload_n 1, 1) := by decide +kernel
theorem dX11_meant_301 : decode cX11_meant 301 = .ok (.invokevirtual 295, 3) := by decide +kernel
theorem dX11_meant_304 : decode cX11_meant 304 = .ok (.ifCond .eq 44, 3) := by decide +kernel
theorem dX11_meant_307 : decode cX11_meant 307 = .ok (.aload_n 0, 1) := by decide +kernel
theorem dX11_meant_308 : decode cX11_meant 308 = .ok (.iload_n 1, 1) := by decide +kernel
theorem dX11_meant_309 : decode cX11_meant 309 = .ok (.bipush 6, 2) := by decide +kernel
theorem dX11_meant_311 : decode cX11_meant 311 = .ok (.invokevirtual 292, 3) := by decide +kernel
theorem dX11_meant_314 : decode cX11_meant 314 = .ok (.istore_n 3, 1) := by decide +kernel
theorem dX11_meant_315 : decode cX11_meant 315 = .ok (.aload_n 0, 1) := by decide +kernel
theorem dX11_meant_316 : decode cX11_meant 316 = .ok (.iload_n 1, 1) := by decide +kernel
theorem dX11_meant_317 : decode cX11_meant 317 = .ok (.bipush 7, 2) := by decide +kernel
theorem dX11_meant_319 : decode cX11_meant 319 = .ok (.invokevirtual 292, 3) := by decide +kernel
theorem dX11_meant_322 : decode cX11_meant 322 = .ok (.istore 4, 2) := by decide +kernel
theorem dX11_meant_324 : decode cX11_meant 324 = .ok (.iload_n 3, 1) := by decide +kernel
theorem dX11_meant_325 : decode cX11_meant 325 = .ok (.ifCond .eq 23, 3) := by decide +kernel
theorem dX11_meant_328 : decode cX11_meant 328 = .ok (.iload 4, 2) := by decide +kernel
theorem dX11_meant_330 : decode cX11_meant 330 = .ok (.ifCond .eq 18, 3) := by decide +kernel
theorem dX11_meant_333 : decode cX11_meant 333 = .ok (.iload_n 3, 1) := by decide +kernel
theorem dX11_meant_334 : decode cX11_meant 334 = .ok (.iload 4, 2) := by decide +kernel
theorem dX11_meant_336 : decode cX11_meant 336 = .ok (.if_icmp .eq 12, 3) := by decide +kernel
theorem dX11_meant_339 : decode cX11_meant 339 = .ok (.aload_n 0, 1) := by decide +kernel
theorem dX11_meant_340 : decode cX11_meant 340 = .ok (.iconst 3, 1) := by decide +kernel
theorem dX11_meant_341 : decode cX11_meant 341 = .ok (.aload_n 0, 1) := by decide +kernel
theorem dX11_meant_342 : decode cX11_meant 342 = .ok (.getfield 252, 3) := by decide +kernel
theorem dX11_meant_345 : decode cX11_meant 345 = .ok (.invokevirtual 262, 3) := by decide +kernel
theorem dX11_meant_348 : decode cX11_meant 348 = .ok (.aload_n 0, 1) := by decide +kernel
theorem dX11_meant_349 : decode cX11_meant 349 = .ok (.iconst 0, 1) := by decide +kernel
theorem dX11_meant_350 : decode cX11_meant 350 = .ok (.putfield 258, 3) := by decide +kernel
theorem dX11_meant_353 : decode cX11_meant 353 = .ok (.return_, 1) := by decide +kernel
theorem dX11_act_0 : decode cX11_act 0 = .ok (.aload_n 0, 1) := by decide +kernel
theorem dX11_act_1 : decode cX11_act 1 = .ok (.getfield 159, 3) := by decide +kernel
theorem dX11_act_4 : decode cX11_act 4 = .ok (.istore_n 1, 1) := by decide +kernel
theorem dX11_act_5 : decode cX11_act 5 = .ok (.aload_n 0, 1) := by decide +kernel
theorem dX11_act_6 : decode cX11_act 6 = .ok (.aload_n 0, 1) := by decide +kernel
theorem dX11_act_7 : decode cX11_act 7 = .ok (.getfield 166, 3) := by decide +kernel
theorem dX11_act_10 : decode cX11_act 10 = .ok (.putfield 182, 3) := by decide +kernel
theorem dX11_act_13 : decode cX11_act 13 = .ok (.aload_n 0, 1) := by decide +kernel
theorem dX11_act_14 : decode cX11_act 14 = .ok (.iconst 0, 1) := by decide +kernel
theorem dX11_act_15 : decode cX11_act 15 = .ok (.putfield 166, 3) := by decide +kernel
theorem dX11_act_18 : decode cX11_act 18 = .ok (.aload_n 0, 1) := by decide +kernel
theorem dX11_act_19 : decode cX11_act 19 = .ok (.iconst 0, 1) := by decide +kernel
theorem dX11_act_20 : decode cX11_act 20 = .ok (.putfield 179, 3) := by decide +kernel
theorem dX11_act_23 : decode cX11_act 23 = .ok (.aload_n 0, 1) := by decide +kernel
theorem dX11_act_24 : decode cX11_act 24 = .ok (.iconst 0, 1) := by decide +kernel
theorem dX11_act_25 : decode cX11_act 25 = .ok (.putfield 169, 3) := by decide +kernel
theorem dX11_act_28 : decode cX11_act 28 = .ok (.aload_n 0, 1) := by decide +kernel
theorem dX11_act_29 : decode cX11_act 29 = .ok (.iconst (-1), 1) := by decide +kernel
theorem dX11_act_30 : decode cX11_act 30 = .ok (.putfield 172, 3) := by decide +kernel
theorem dX11_act_33 : decode cX11_act 33 = .ok (.aload_n 0, 1) := by decide +kernel
theorem dX11_act_34 : decode cX11_act 34 = .ok (.getfield 48, 3) := by decide +kernel
theorem dX11_act_37 : decode cX11_act 37 = .ok (.iload_n 1, 1) := by decide +kernel
theorem dX11_act_38 : decode cX11_act 38 = .ok (.iconst 0, 1) := by decide +kernel
theorem dX11_act_39 : decode cX11_act 39 = .ok (.iastore, 1) := by decide +kernel
theorem dX11_act_40 : decode cX11_act 40 = .ok (.aload_n 0, 1) := by decide +kernel
theorem dX11_act_41 : decode cX11_act 41 = .ok (.getfield 21, 3) := by decide +kernel
theorem dX11_act_44 : decode cX11_act 44 = .ok (.iload_n 1, 1) := by decide +kernel
theorem dX11_act_45 : decode cX11_act 45 = .ok (.iconst 0, 1) := by decide +kernel
theorem dX11_act_46 : decode cX11_act 46 = .ok (.iastore, 1) := by decide +kernel
theorem dX11_act_47 : decode cX11_act 47 = .ok (.aload_n 0, 1) := by decide +kernel
theorem dX11_act_48 : decode cX11_act 48 = .ok (.getfield 30, 3) := by decide +kernel
theorem dX11_act_51 : decode cX11_act 51 = .ok (.iload_n 1, 1) := by decide +kernel
theorem dX11_act_52 : decode cX11_act 52 = .ok (.iconst 0, 1) := by decide +kernel
theorem dX11_act_53 : decode cX11_act 53 = .ok (.iastore, 1) := by decide +kernel
theorem dX11_act_54 : decode cX11_act 54 = .ok (.iconst 0, 1) := by decide +kernel
theorem dX11_act_55 : decode cX11_act 55 = .ok (.istore_n 2, 1) := by decide +kernel
theorem dX11_act_56 : decode cX11_act 56 = .ok (.iload_n 2, 1) := by decide +kernel
theorem dX11_act_57 : decode cX11_act 57 = .ok (.bipush 8, 2) := by decide +kernel
theorem dX11_act_59 : decode cX11_act 59 = .ok (.if_icmp .ge 33, 3) := by decide +kernel
theorem dX11_act_62 : decode cX11_act 62 = .ok (.aload_n 0, 1) := by decide +kernel
theorem dX11_act_63 : decode cX11_act 63 = .ok (.getfield 63, 3) := by decide +kernel
theorem dX11_act_66 : decode cX11_act 66 = .ok (.bipush 8, 2) := by decide +kernel
theorem dX11_act_68 : decode cX11_act 68 = .ok (.iload_n 1, 1) := by decide +kernel
theorem dX11_act_69 : decode cX11_act 69 = .ok (.imul, 1) := by decide +kernel
theorem dX11_act_70 : decode cX11_act 70 = .ok (.iload_n 2, 1) := by decide +kernel
theorem dX11_act_71 : decode cX11_act 71 = .ok (.iadd, 1) := by decide +kernel
theorem dX11_act_72 : decode cX11_act 72 = .ok (.iconst 0, 1) := by decide +kernel
theorem dX11_act_73 : decode cX11_act 73 = .ok (.iastore, 1) := by decide +kernel
theorem dX11_act_74 : decode cX11_act 74 = .ok (.aload_n 0, 1) := by decide +kernel
theorem dX11_act_75 : decode cX11_act 75 = .ok (.getfield 66, 3) := by decide +kernel
theorem dX11_act_78 : decode cX11_act 78 = .ok (.bipush 8, 2) := by decide +kernel
theorem dX11_act_80 : decode cX11_act 80 = .ok (.iload_n 1, 1) := by decide +kernel
theorem dX11_act_81 : decode cX11_act 81 = .ok (.imul, 1) := by decide +kernel
theorem dX11_act_82 : decode cX11_act 82 = .ok (.iload_n 2, 1) := by decide +kernel
theorem dX11_act_83 : decode cX11_act 83 = .ok (.iadd, 1) := by decide +kernel
theorem dX11_act_84 : decode cX11_act 84 = .ok (.iconst 0, 1) := by decide +kernel
theorem dX11_act_85 : decode cX11_act 85 = .ok (.iastore, 1) := by decide +kernel
theorem dX11_act_86 : decode cX11_act 86 = .ok (.iinc 2 1, 3) := by decide +kernel
theorem dX11_act_89 : decode cX11_act 89 = .ok (.goto (-33), 3) := by decide +kernel
theorem dX11_act_92 : decode cX11_act 92 = .ok (.iconst 0, 1) := by decide +kernel
theorem dX11_act_93 : decode cX11_act 93 = .ok (.istore_n 2, 1) := by decide +kernel
theorem dX11_act_94 : decode cX11_act 94 = .ok (.iload_n 2, 1) := by decide +kernel
theorem dX11_act_95 : decode cX11_act 95 = .ok (.aload_n 0, 1) := by decide +kernel
theorem dX11_act_96 : decode cX11_act 96 = .ok (.getfield 182, 3) := by decide +kernel
theorem dX11_act_99 : decode cX11_act 99 = .ok (.if_icmp .ge 27, 3) := by decide +kernel
theorem dX11_act_102 : decode cX11_act 102 = .ok (.aload_n 0, 1) := by decide +kernel
theorem dX11_act_103 : decode cX11_act 103 = .ok (.getfield 60, 3) := by decide +kernel
theorem dX11_act_106 : decode cX11_act 106 = .ok (.sipush 400, 3) := by decide +kernel
theorem dX11_act_109 : decode cX11_act 109 = .ok (.iload_n 1, 1) := by decide +kernel
theorem dX11_act_110 : decode cX11_act 110 = .ok (.imul, 1) := by decide +kernel
theorem dX11_act_111 : decode cX11_act 111 = .ok (.iload_n 2, 1) := by decide +kernel
theorem dX11_act_112 : decode cX11_act 112 = .ok (.iadd, 1) := by decide +kernel
theorem dX11_act_113 : decode cX11_act 113 = .ok (.aload_n 0, 1) := by decide +kernel
theorem dX11_act_114 : decode cX11_act 114 = .ok (.getfield 72, 3) := by decide +kernel
theorem dX11_act_117 : decode cX11_act 117 = .ok (.iload_n 2, 1) := by decide +kernel
theorem dX11_act_118 : decode cX11_act 118 = .ok (.iaload, 1) := by decide +kernel
theorem dX11_act_119 : decode cX11_act 119 = .ok (.iastore, 1) := by decide +kernel
theorem dX11_act_120 : decode cX11_act 120 = .ok (.iinc 2 1, 3) := by decide +kernel
theorem dX11_act_123 : decode cX11_act 123 = .ok (.goto (-29), 3) := by decide +kernel
theorem dX11_act_126 : decode cX11_act 126 = .ok (.aload_n 0, 1) := by decide +kernel
theorem dX11_act_127 : decode cX11_act 127 = .ok (.invokevirtual 210, 3) := by decide +kernel
theorem dX11_act_130 : decode cX11_act 130 = .ok (.aload_n 0, 1) := by decide +kernel
theorem dX11_act_131 : decode cX11_act 131 = .ok (.getfield 17, 3) := by decide +kernel
theorem dX11_act_134 : decode cX11_act 134 = .ok (.iload_n 1, 1) := by decide +kernel
theorem dX11_act_135 : decode cX11_act 135 = .ok (.aload_n 0, 1) := by decide +kernel
theorem dX11_act_136 : decode cX11_act 136 = .ok (.aload_n 0, 1) := by decide +kernel
theorem dX11_act_137 : decode cX11_act 137 = .ok (.getfield 90, 3) := by decide +kernel
theorem dX11_act_140 : decode cX11_act 140 = .ok (.invokevirtual 227, 3) := by decide +kernel
theorem dX11_act_143 : decode cX11_act 143 = .ok (.ifCond .eq 7, 3) := by decide +kernel
theorem dX11_act_146 : decode cX11_act 146 = .ok (.iconst 0, 1) := by decide +kernel
theorem dX11_act_147 : decode cX11_act 147 = .ok (.goto 34, 3) := by decide +kernel
theorem dX11_act_150 : decode cX11_act 150 = .ok (.aload_n 0, 1) := by decide +kernel
theorem dX11_act_151 : decode cX11_act 151 = .ok (.aload_n 0, 1) := by decide +kernel
theorem dX11_act_152 : decode cX11_act 152 = .ok (.getfield 83, 3) := by decide +kernel
theorem dX11_act_155 : decode cX11_act 155 = .ok (.invokevirtual 227, 3) := by decide +kernel
theorem dX11_act_158 : decode cX11_act 158 = .ok (.ifCond .eq 7, 3) := by decide +kernel
theorem dX11_act_161 : decode cX11_act 161 = .ok (.iconst 1, 1) := by decide +kernel
theorem dX11_act_162 : decode cX11_act 162 = .ok (.goto 19, 3) := by decide +kernel
theorem dX11_act_165 : decode cX11_act 165 = .ok (.aload_n 0, 1) := by decide +kernel
theorem dX11_act_166 : decode cX11_act 166 = .ok (.aload_n 0, 1) := by decide +kernel
theorem dX11_act_167 : decode cX11_act 167 = .ok (.getfield 87, 3) := by decide +kernel
theorem dX11_act_170 : decode cX11_act 170 = .ok (.invokevirtual 227, 3) := by decide +kernel
theorem dX11_act_173 : decode cX11_act 173 = .ok (.ifCond .eq 7, 3) := by decide +kernel
theorem dX11_act_176 : decode cX11_act 176 = .ok (.iconst 2, 1) := by decide +kernel
theorem dX11_act_177 : decode cX11_act 177 = .ok (.goto 4, 3) := by decide +kernel
theorem dX11_act_180 : decode cX11_act 180 = .ok (.iconst (-1), 1) := by decide +kernel
theorem dX11_act_181 : decode cX11_act 181 = .ok (.iastore, 1) := by decide +kernel
theorem dX11_act_182 : decode cX11_act 182 = .ok (.aload_n 0, 1) := by decide +kernel
theorem dX11_act_183 : decode cX11_act 183 = .ok (.getfield 17, 3) := by decide +kernel
theorem dX11_act_186 : decode cX11_act 186 = .ok (.iload_n 1, 1) := by decide +kernel
theorem dX11_act_187 : decode cX11_act 187 = .ok (.iaload, 1) := by decide +kernel
theorem dX11_act_188 : decode cX11_act 188 = .ok (.iconst (-1), 1) := by decide +kernel
theorem dX11_act_189 : decode cX11_act 189 = .ok (.if_icmp .ne 15, 3) := by decide +kernel
theorem dX11_act_192 : decode cX11_act 192 = .ok (.aload_n 0, 1) := by decide +kernel
theorem dX11_act_193 : decode cX11_act 193 = .ok (.iconst 1, 1) := by decide +kernel
theorem dX11_act_194 : decode cX11_act 194 = .ok (.aload_n 0, 1) := by decide +kernel
theorem dX11_act_195 : decode cX11_act 195 = .ok (.getfield 188, 3) := by decide +kernel
theorem dX11_act_198 : decode cX11_act 198 = .ok (.invokevirtual 216, 3) := by decide +kernel
theorem dX11_act_201 : decode cX11_act 201 = .ok (.goto 7, 3) := by decide +kernel
theorem dX11_act_204 : decode cX11_act 204 = .ok (.aload_n 0, 1) := by decide +kernel
theorem dX11_act_205 : decode cX11_act 205 = .ok (.invokevirtual 213, 3) := by decide +kernel
theorem dX11_act_208 : decode cX11_act 208 = .ok (.aload_n 0, 1) := by decide +kernel
theorem dX11_act_209 : decode cX11_act 209 = .ok (.getfield 13, 3) := by decide +kernel
theorem dX11_act_212 : decode cX11_act 212 = .ok (.iload_n 1, 1) := by decide +kernel
theorem dX11_act_213 : decode cX11_act 213 = .ok (.aload_n 0, 1) := by decide +kernel
theorem dX11_act_214 : decode cX11_act 214 = .ok (.getfield 194, 3) := by decide +kernel
theorem dX11_act_217 : decode cX11_act 217 = .ok (.lastore, 1) := by decide +kernel
theorem dX11_act_218 : decode cX11_act 218 = .ok (.aload_n 0, 1) := by decide +kernel
theorem dX11_act_219 : decode cX11_act 219 = .ok (.getfield 169, 3) := by decide +kernel
theorem dX11_act_222 : decode cX11_act 222 = .ok (.ifCond .ne 7, 3) := by decide +kernel
theorem dX11_act_225 : decode cX11_act 225 = .ok (.aload_n 0, 1) := by decide +kernel
theorem dX11_act_226 : decode cX11_act 226 = .ok (.invokevirtual 238, 3) := by decide +kernel
theorem dX11_act_229 : decode cX11_act 229 = .ok (.aload_n 0, 1) := by decide +kernel
theorem dX11_act_230 : decode cX11_act 230 = .ok (.getfield 169, 3) := by decide +kernel
theorem dX11_act_233 : decode cX11_act 233 = .ok (.ifCond .ne 19, 3) := by decide +kernel
theorem dX11_act_236 : decode cX11_act 236 = .ok (.aload_n 0, 1) := by decide +kernel
theorem dX11_act_237 : decode cX11_act 237 = .ok (.getfield 17, 3) := by decide +kernel
theorem dX11_act_240 : decode cX11_act 240 = .ok (.iload_n 1, 1) := by decide +kernel
theorem dX11_act_241 : decode cX11_act 241 = .ok (.iaload, 1) := by decide +kernel
theorem dX11_act_242 : decode cX11_act 242 = .ok (.ifCond .ne 10, 3) := by decide +kernel
theorem dX11_act_245 : decode cX11_act 245 = .ok (.aload_n 0, 1) := by decide +kernel
theorem dX11_act_246 : decode cX11_act 246 = .ok (.invokevirtual 298, 3) := by decide +kernel
theorem dX11_act_249 : decode cX11_act 249 = .ok (.goto 14, 3) := by decide +kernel
theorem dX11_act_252 : decode cX11_act 252 = .ok (.aload_n 0, 1) := by decide +kernel
theorem dX11_act_253 : decode cX11_act 253 = .ok (.getfield 169, 3) := by decide +kernel
theorem dX11_act_256 : decode cX11_act 256 = .ok (.ifCond .ne 7, 3) := by decide +kernel
theorem dX11_act_259 : decode cX11_act 259 = .ok (.aload_n 0, 1) := by decide +kernel
theorem dX11_act_260 : decode cX11_act 260 = .ok (.invokevirtual 301, 3) := by decide +kernel
theorem dX11_act_263 : decode cX11_act 263 = .ok (.aload_n 0, 1) := by decide +kernel
theorem dX11_act_264 : decode cX11_act 264 = .ok (.getfield 169, 3) := by decide +kernel
theorem dX11_act_267 : decode cX11_act 267 = .ok (.ifCond .ne 9, 3) := by decide +kernel
theorem dX11_act_270 : decode cX11_act 270 = .ok (.aload_n 0, 1) := by decide +kernel
theorem dX11_act_271 : decode cX11_act 271 = .ok (.bipush 59, 2) := by decide +kernel
theorem dX11_act_273 : decode cX11_act 273 = .ok (.invokevirtual 231, 3) := by decide +kernel
theorem dX11_act_276 : decode cX11_act 276 = .ok (.aload_n 0, 1) := by decide +kernel
theorem dX11_act_277 : decode cX11_act 277 = .ok (.getfield 169, 3) := by decide +kernel
theorem dX11_act_280 : decode cX11_act 280 = .ok (.ifCond .ne 19, 3) := by decide +kernel
theorem dX11_act_283 : decode cX11_act 283 = .ok (.aload_n 0, 1) := by decide +kernel
theorem dX11_act_284 : decode cX11_act 284 = .ok (.getfield 197, 3) := by decide +kernel
theorem dX11_act_287 : decode cX11_act 287 = .ok (.ifCond .eq 12, 3) := by decide +kernel
theorem dX11_act_290 : decode cX11_act 290 = .ok (.aload_n 0, 1) := by decide +kernel
theorem dX11_act_291 : decode cX11_act 291 = .ok (.iconst 1, 1) := by decide +kernel
theorem dX11_act_292 : decode cX11_act 292 = .ok (.aload_n 0, 1) := by decide +kernel
theorem dX11_act_293 : decode cX11_act 293 = .ok (.getfield 188, 3) := by decide +kernel
theorem dX11_act_296 : decode cX11_act 296 = .ok (.invokevirtual 216, 3) := by decide +kernel
theorem dX11_act_299 : decode cX11_act 299 = .ok (.aload_n 0, 1) := by decide +kernel
theorem dX11_act_300 : decode cX11_act 300 = .ok (.getfield 169, 3) := by decide +kernel
theorem dX11_act_303 : decode cX11_act 303 = .ok (.ifCond .ne 7, 3) := by decide +kernel
theorem dX11_act_306 : decode cX11_act 306 = .ok (.aload_n 0, 1) := by decide +kernel
theorem dX11_act_307 : decode cX11_act 307 = .ok (.invokevirtual 304, 3) := by decide +kernel
theorem dX11_act_310 : decode cX11_act 310 = .ok (.aload_n 0, 1) := by decide +kernel
theorem dX11_act_311 : decode cX11_act 311 = .ok (.getfield 169, 3) := by decide +kernel
theorem dX11_act_314 : decode cX11_act 314 = .ok (.ifCond .ne 18, 3) := by decide +kernel
theorem dX11_act_317 : decode cX11_act 317 = .ok (.aload_n 0, 1) := by decide +kernel
theorem dX11_act_318 : decode cX11_act 318 = .ok (.getfield 159, 3) := by decide +kernel
theorem dX11_act_321 : decode cX11_act 321 = .ok (.bipush 16, 2) := by decide +kernel
theorem dX11_act_323 : decode cX11_act 323 = .ok (.if_icmp .ne 9, 3) := by decide +kernel
theorem dX11_act_326 : decode cX11_act 326 = .ok (.aload_n 0, 1) := by decide +kernel
theorem dX11_act_327 : decode cX11_act 327 = .ok (.iconst 5, 1) := by decide +kernel
theorem dX11_act_328 : decode cX11_act 328 = .ok (.iconst 0, 1) := by decide +kernel
theorem dX11_act_329 : decode cX11_act 329 = .ok (.invokevirtual 262, 3) := by decide +kernel
theorem dX11_act_332 : decode cX11_act 332 = .ok (.aload_n 0, 1) := by decide +kernel
theorem dX11_act_333 : decode cX11_act 333 = .ok (.aload_n 0, 1) := by decide +kernel
theorem dX11_act_334 : decode cX11_act 334 = .ok (.getfield 169, 3) := by decide +kernel
theorem dX11_act_337 : decode cX11_act 337 = .ok (.putfield 307, 3) := by decide +kernel
theorem dX11_act_340 : decode cX11_act 340 = .ok (.aload_n 0, 1) := by decide +kernel
theorem dX11_act_341 : decode cX11_act 341 = .ok (.aload_n 0, 1) := by decide +kernel
theorem dX11_act_342 : decode cX11_act 342 = .ok (.getfield 172, 3) := by decide +kernel
theorem dX11_act_345 : decode cX11_act 345 = .ok (.putfield 75, 3) := by decide +kernel
theorem dX11_act_348 : decode cX11_act 348 = .ok (.aload_n 0, 1) := by decide +kernel
theorem dX11_act_349 : decode cX11_act 349 = .ok (.getfield 169, 3) := by decide +kernel
theorem dX11_act_352 : decode cX11_act 352 = .ok (.ifCond .eq 5, 3) := by decide +kernel
theorem dX11_act_355 : decode cX11_act 355 = .ok (.iconst (-1), 1) := by decide +kernel
theorem dX11_act_356 : decode cX11_act 356 = .ok (.ireturn, 1) := by decide +kernel
theorem dX11_act_357 : decode cX11_act 357 = .ok (.aload_n 0, 1) := by decide +kernel
theorem dX11_act_358 : decode cX11_act 358 = .ok (.getfield 7, 3) := by decide +kernel
theorem dX11_act_361 : decode cX11_act 361 = .ok (.iload_n 1, 1) := by decide +kernel
theorem dX11_act_362 : decode cX11_act 362 = .ok (.iconst 1, 1) := by decide +kernel
theorem dX11_act_363 : decode cX11_act 363 = .ok (.bastore, 1) := by decide +kernel
theorem dX11_act_364 : decode cX11_act 364 = .ok (.aload_n 0, 1) := by decide +kernel
theorem dX11_act_365 : decode cX11_act 365 = .ok (.getfield 36, 3) := by decide +kernel
theorem dX11_act_368 : decode cX11_act 368 = .ok (.iload_n 1, 1) := by decide +kernel
theorem dX11_act_369 : decode cX11_act 369 = .ok (.iconst (-1), 1) := by decide +kernel
theorem dX11_act_370 : decode cX11_act 370 = .ok (.iastore, 1) := by decide +kernel
theorem dX11_act_371 : decode cX11_act 371 = .ok (.aload_n 0, 1) := by decide +kernel
theorem dX11_act_372 : decode cX11_act 372 = .ok (.getfield 39, 3) := by decide +kernel
theorem dX11_act_375 : decode cX11_act 375 = .ok (.iload_n 1, 1) := by decide +kernel
theorem dX11_act_376 : decode cX11_act 376 = .ok (.iconst (-1), 1) := by decide +kernel
theorem dX11_act_377 : decode cX11_act 377 = .ok (.iastore, 1) := by decide +kernel
theorem dX11_act_378 : decode cX11_act 378 = .ok (.aload_n 0, 1) := by decide +kernel
theorem dX11_act_379 : decode cX11_act 379 = .ok (.getfield 42, 3) := by decide +kernel
theorem dX11_act_382 : decode cX11_act 382 = .ok (.iload_n 1, 1) := by decide +kernel
theorem dX11_act_383 : decode cX11_act 383 = .ok (.iconst (-1), 1) := by decide +kernel
theorem dX11_act_384 : decode cX11_act 384 = .ok (.iastore, 1) := by decide +kernel
theorem dX11_act_385 : decode cX11_act 385 = .ok (.aload_n 0, 1) := by decide +kernel
theorem dX11_act_386 : decode cX11_act 386 = .ok (.getfield 45, 3) := by decide +kernel
theorem dX11_act_389 : decode cX11_act 389 = .ok (.iload_n 1, 1) := by decide +kernel
theorem dX11_act_390 : decode cX11_act 390 = .ok (.iconst (-1), 1) := by decide +kernel
theorem dX11_act_391 : decode cX11_act 391 = .ok (.iastore, 1) := by decide +kernel
theorem dX11_act_392 : decode cX11_act 392 = .ok (.aload_n 0, 1) := by decide +kernel
theorem dX11_act_393 : decode cX11_act 393 = .ok (.dup, 1) := by decide +kernel
theorem dX11_act_394 : decode cX11_act 394 = .ok (.getfield 159, 3) := by decide +kernel
theorem dX11_act_397 : decode cX11_act 397 = .ok (.iconst 1, 1) := by decide +kernel
theorem dX11_act_398 : decode cX11_act 398 = .ok (.iadd, 1) := by decide +kernel
theorem dX11_act_399 : decode cX11_act 399 = .ok (.putfield 159, 3) := by decide +kernel
theorem dX11_act_402 : decode cX11_act 402 = .ok (.iload_n 1, 1) := by decide +kernel
theorem dX11_act_403 : decode cX11_act 403 = .ok (.ireturn, 1) := by decide +kernel
theorem dX11_fault_0 : decode cX11_fault 0 = .ok (.iload_n 1, 1) := by decide +kernel
theorem dX11_fault_1 : decode cX11_fault 1 = .ok (.ifCond .ne 10, 3) := by decide +kernel
theorem dX11_fault_4 : decode cX11_fault 4 = .ok (.aload_n 0, 1) := by decide +kernel
theorem dX11_fault_5 : decode cX11_fault 5 = .ok (.getfield 307, 3) := by decide +kernel
theorem dX11_fault_8 : decode cX11_fault 8 = .ok (.goto 16, 3) := by decide +kernel
theorem dX11_fault_11 : decode cX11_fault 11 = .ok (.iload_n 1, 1) := by decide +kernel
theorem dX11_fault_12 : decode cX11_fault 12 = .ok (.iconst 1, 1) := by decide +kernel
theorem dX11_fault_13 : decode cX11_fault 13 = .ok (.if_icmp .ne 10, 3) := by decide +kernel
theorem dX11_fault_16 : decode cX11_fault 16 = .ok (.aload_n 0, 1) := by decide +kernel
theorem dX11_fault_17 : decode cX11_fault 17 = .ok (.getfield 75, 3) := by decide +kernel
theorem dX11_fault_20 : decode cX11_fault 20 = .ok (.goto 4, 3) := by decide +kernel
theorem dX11_fault_23 : decode cX11_fault 23 = .ok (.iconst (-1), 1) := by decide +kernel
theorem dX11_fault_24 : decode cX11_fault 24 = .ok (.ireturn, 1) := by decide +kernel
theorem dX11_named__0 : decode cX11_named_ 0 = .ok (.aload_n 0, 1) := by decide +kernel
theorem dX11_named__1 : decode cX11_named_ 1 = .ok (.iconst 0, 1) := by decide +kernel
theorem dX11_named__2 : decode cX11_named_ 2 = .ok (.putfield 179, 3) := by decide +kernel
theorem dX11_named__5 : decode cX11_named_ 5 = .ok (.aload_n 0, 1) := by decide +kernel
theorem dX11_named__6 : decode cX11_named_ 6 = .ok (.aload_n 0, 1) := by decide +kernel
theorem dX11_named__7 : decode cX11_named_ 7 = .ok (.getfield 166, 3) := by decide +kernel
theorem dX11_named__10 : decode cX11_named_ 10 = .ok (.putfield 182, 3) := by decide +kernel
theorem dX11_named__13 : decode cX11_named_ 13 = .ok (.aload_n 0, 1) := by decide +kernel
theorem dX11_named__14 : decode cX11_named_ 14 = .ok (.iconst 0, 1) := by decide +kernel
theorem dX11_named__15 : decode cX11_named_ 15 = .ok (.putfield 166, 3) := by decide +kernel
theorem dX11_named__18 : decode cX11_named_ 18 = .ok (.aload_n 0, 1) := by decide +kernel
theorem dX11_named__19 : decode cX11_named_ 19 = .ok (.invokevirtual 210, 3) := by decide +kernel
theorem dX11_named__22 : decode cX11_named_ 22 = .ok (.aload_n 0, 1) := by decide +kernel
theorem dX11_named__23 : decode cX11_named_ 23 = .ok (.invokevirtual 220, 3) := by decide +kernel
theorem dX11_named__26 : decode cX11_named_ 26 = .ok (.istore_n 1, 1) := by decide +kernel
theorem dX11_named__27 : decode cX11_named_ 27 = .ok (.aload_n 0, 1) := by decide +kernel
theorem dX11_named__28 : decode cX11_named_ 28 = .ok (.getfield 194, 3) := by decide +kernel
theorem dX11_named__31 : decode cX11_named_ 31 = .ok (.lstore_n 2, 1) := by decide +kernel
theorem dX11_named__32 : decode cX11_named_ 32 = .ok (.aload_n 0, 1) := by decide +kernel
theorem dX11_named__33 : decode cX11_named_ 33 = .ok (.invokevirtual 210, 3) := by decide +kernel
theorem dX11_named__36 : decode cX11_named_ 36 = .ok (.iload_n 1, 1) := by decide +kernel
theorem dX11_named__37 : decode cX11_named_ 37 = .ok (.ifCond .eq 10, 3) := by decide +kernel
theorem dX11_named__40 : decode cX11_named_ 40 = .ok (.aload_n 0, 1) := by decide +kernel
theorem dX11_named__41 : decode cX11_named_ 41 = .ok (.getfield 197, 3) := by decide +kernel
theorem dX11_named__44 : decode cX11_named_ 44 = .ok (.ifCond .eq 5, 3) := by decide +kernel
theorem dX11_named__47 : decode cX11_named_ 47 = .ok (.iconst (-1), 1) := by decide +kernel
theorem dX11_named__48 : decode cX11_named_ 48 = .ok (.ireturn, 1) := by decide +kernel
theorem dX11_named__49 : decode cX11_named_ 49 = .ok (.aload_n 0, 1) := by decide +kernel
theorem dX11_named__50 : decode cX11_named_ 50 = .ok (.lload_n 2, 1) := by decide +kernel
theorem dX11_named__51 : decode cX11_named_ 51 = .ok (.invokevirtual 288, 3) := by decide +kernel
theorem dX11_named__54 : decode cX11_named_ 54 = .ok (.istore 4, 2) := by decide +kernel
theorem dX11_named__56 : decode cX11_named_ 56 = .ok (.iload 4, 2) := by decide +kernel
theorem dX11_named__58 : decode cX11_named_ 58 = .ok (.iconst (-1), 1) := by decide +kernel
theorem dX11_named__59 : decode cX11_named_ 59 = .ok (.if_icmp .ne 8, 3) := by decide +kernel
theorem dX11_named__62 : decode cX11_named_ 62 = .ok (.bipush (-2), 2) := by decide +kernel
theorem dX11_named__64 : decode cX11_named_ 64 = .ok (.goto 5, 3) := by decide +kernel
theorem dX11_named__67 : decode cX11_named_ 67 = .ok (.iload 4, 2) := by decide +kernel
theorem dX11_named__69 : decode cX11_named_ 69 = .ok (.ireturn, 1) := by decide +kernel
theorem dX11_ages_0 : decode cX11_ages 0 = .ok (.iconst 0, 1) := by decide +kernel
theorem dX11_ages_1 : decode cX11_ages 1 = .ok (.istore_n 1, 1) := by decide +kernel
theorem dX11_ages_2 : decode cX11_ages 2 = .ok (.iload_n 1, 1) := by decide +kernel
theorem dX11_ages_3 : decode cX11_ages 3 = .ok (.aload_n 0, 1) := by decide +kernel
theorem dX11_ages_4 : decode cX11_ages 4 = .ok (.getfield 159, 3) := by decide +kernel
theorem dX11_ages_7 : decode cX11_ages 7 = .ok (.if_icmp .ge 48, 3) := by decide +kernel
theorem dX11_ages_10 : decode cX11_ages 10 = .ok (.aload_n 0, 1) := by decide +kernel
theorem dX11_ages_11 : decode cX11_ages 11 = .ok (.getfield 132, 3) := by decide +kernel
theorem dX11_ages_14 : decode cX11_ages 14 = .ok (.iload_n 1, 1) := by decide +kernel
theorem dX11_ages_15 : decode cX11_ages 15 = .ok (.aload_n 0, 1) := by decide +kernel
theorem dX11_ages_16 : decode cX11_ages 16 = .ok (.getfield 42, 3) := by decide +kernel
theorem dX11_ages_19 : decode cX11_ages 19 = .ok (.iload_n 1, 1) := by decide +kernel
theorem dX11_ages_20 : decode cX11_ages 20 = .ok (.iaload, 1) := by decide +kernel
theorem dX11_ages_21 : decode cX11_ages 21 = .ok (.iastore, 1) := by decide +kernel
theorem dX11_ages_22 : decode cX11_ages 22 = .ok (.aload_n 0, 1) := by decide +kernel
theorem dX11_ages_23 : decode cX11_ages 23 = .ok (.getfield 135, 3) := by decide +kernel
theorem dX11_ages_26 : decode cX11_ages 26 = .ok (.iload_n 1, 1) := by decide +kernel
theorem dX11_ages_27 : decode cX11_ages 27 = .ok (.aload_n 0, 1) := by decide +kernel
theorem dX11_ages_28 : decode cX11_ages 28 = .ok (.getfield 45, 3) := by decide +kernel
theorem dX11_ages_31 : decode cX11_ages 31 = .ok (.iload_n 1, 1) := by decide +kernel
theorem dX11_ages_32 : decode cX11_ages 32 = .ok (.iaload, 1) := by decide +kernel
theorem dX11_ages_33 : decode cX11_ages 33 = .ok (.iastore, 1) := by decide +kernel
theorem dX11_ages_34 : decode cX11_ages 34 = .ok (.aload_n 0, 1) := by decide +kernel
theorem dX11_ages_35 : decode cX11_ages 35 = .ok (.getfield 17, 3) := by decide +kernel
theorem dX11_ages_38 : decode cX11_ages 38 = .ok (.iload_n 1, 1) := by decide +kernel
theorem dX11_ages_39 : decode cX11_ages 39 = .ok (.iaload, 1) := by decide +kernel
theorem dX11_ages_40 : decode cX11_ages 40 = .ok (.iconst 1, 1) := by decide +kernel
theorem dX11_ages_41 : decode cX11_ages 41 = .ok (.if_icmp .ne 8, 3) := by decide +kernel
theorem dX11_ages_44 : decode cX11_ages 44 = .ok (.aload_n 0, 1) := by decide +kernel
theorem dX11_ages_45 : decode cX11_ages 45 = .ok (.iload_n 1, 1) := by decide +kernel
theorem dX11_ages_46 : decode cX11_ages 46 = .ok (.invokevirtual 310, 3) := by decide +kernel
theorem dX11_ages_49 : decode cX11_ages 49 = .ok (.iinc 1 1, 3) := by decide +kernel
theorem dX11_ages_52 : decode cX11_ages 52 = .ok (.goto (-50), 3) := by decide +kernel
theorem dX11_ages_55 : decode cX11_ages 55 = .ok (.return_, 1) := by decide +kernel
theorem dX11_agesBehind_0 : decode cX11_agesBehind 0 = .ok (.aload_n 0, 1) := by decide +kernel
theorem dX11_agesBehind_1 : decode cX11_agesBehind 1 = .ok (.getfield 132, 3) := by decide +kernel
theorem dX11_agesBehind_4 : decode cX11_agesBehind 4 = .ok (.iload_n 1, 1) := by decide +kernel
theorem dX11_agesBehind_5 : decode cX11_agesBehind 5 = .ok (.iconst (-1), 1) := by decide +kernel
theorem dX11_agesBehind_6 : decode cX11_agesBehind 6 = .ok (.iastore, 1) := by decide +kernel
theorem dX11_agesBehind_7 : decode cX11_agesBehind 7 = .ok (.aload_n 0, 1) := by decide +kernel
theorem dX11_agesBehind_8 : decode cX11_agesBehind 8 = .ok (.getfield 135, 3) := by decide +kernel
theorem dX11_agesBehind_11 : decode cX11_agesBehind 11 = .ok (.iload_n 1, 1) := by decide +kernel
theorem dX11_agesBehind_12 : decode cX11_agesBehind 12 = .ok (.iconst (-1), 1) := by decide +kernel
theorem dX11_agesBehind_13 : decode cX11_agesBehind 13 = .ok (.iastore, 1) := by decide +kernel
theorem dX11_agesBehind_14 : decode cX11_agesBehind 14 = .ok (.iconst 0, 1) := by decide +kernel
theorem dX11_agesBehind_15 : decode cX11_agesBehind 15 = .ok (.istore_n 2, 1) := by decide +kernel
theorem dX11_agesBehind_16 : decode cX11_agesBehind 16 = .ok (.iload_n 2, 1) := by decide +kernel
theorem dX11_agesBehind_17 : decode cX11_agesBehind 17 = .ok (.aload_n 0, 1) := by decide +kernel
theorem dX11_agesBehind_18 : decode cX11_agesBehind 18 = .ok (.getfield 30, 3) := by decide +kernel
theorem dX11_agesBehind_21 : decode cX11_agesBehind 21 = .ok (.iload_n 1, 1) := by decide +kernel
theorem dX11_agesBehind_22 : decode cX11_agesBehind 22 = .ok (.iaload, 1) := by decide +kernel
theorem dX11_agesBehind_23 : decode cX11_agesBehind 23 = .ok (.if_icmp .ge 109, 3) := by decide +kernel
theorem dX11_agesBehind_26 : decode cX11_agesBehind 26 = .ok (.aload_n 0, 1) := by decide +kernel
theorem dX11_agesBehind_27 : decode cX11_agesBehind 27 = .ok (.getfield 33, 3) := by decide +kernel
theorem dX11_agesBehind_30 : decode cX11_agesBehind 30 = .ok (.iconst 3, 1) := by decide +kernel
theorem dX11_agesBehind_31 : decode cX11_agesBehind 31 = .ok (.iload_n 1, 1) := by decide +kernel
theorem dX11_agesBehind_32 : decode cX11_agesBehind 32 = .ok (.imul, 1) := by decide +kernel
theorem dX11_agesBehind_33 : decode cX11_agesBehind 33 = .ok (.iload_n 2, 1) := by decide +kernel
theorem dX11_agesBehind_34 : decode cX11_agesBehind 34 = .ok (.iadd, 1) := by decide +kernel
theorem dX11_agesBehind_35 : decode cX11_agesBehind 35 = .ok (.iaload, 1) := by decide +kernel
theorem dX11_agesBehind_36 : decode cX11_agesBehind 36 = .ok (.istore_n 3, 1) := by decide +kernel
theorem dX11_agesBehind_37 : decode cX11_agesBehind 37 = .ok (.aload_n 0, 1) := by decide +kernel
theorem dX11_agesBehind_38 : decode cX11_agesBehind 38 = .ok (.getfield 135, 3) := by decide +kernel
theorem dX11_agesBehind_41 : decode cX11_agesBehind 41 = .ok (.iload_n 3, 1) := by decide +kernel
theorem dX11_agesBehind_42 : decode cX11_agesBehind 42 = .ok (.iaload, 1) := by decide +kernel
theorem dX11_agesBehind_43 : decode cX11_agesBehind 43 = .ok (.iconst (-1), 1) := by decide +kernel
theorem dX11_agesBehind_44 : decode cX11_agesBehind 44 = .ok (.if_icmp .ne 18, 3) := by decide +kernel
theorem dX11_agesBehind_47 : decode cX11_agesBehind 47 = .ok (.aload_n 0, 1) := by decide +kernel
theorem dX11_agesBehind_48 : decode cX11_agesBehind 48 = .ok (.getfield 132, 3) := by decide +kernel
theorem dX11_agesBehind_51 : decode cX11_agesBehind 51 = .ok (.iload_n 1, 1) := by decide +kernel
theorem dX11_agesBehind_52 : decode cX11_agesBehind 52 = .ok (.iconst (-1), 1) := by decide +kernel
theorem dX11_agesBehind_53 : decode cX11_agesBehind 53 = .ok (.iastore, 1) := by decide +kernel
theorem dX11_agesBehind_54 : decode cX11_agesBehind 54 = .ok (.aload_n 0, 1) := by decide +kernel
theorem dX11_agesBehind_55 : decode cX11_agesBehind 55 = .ok (.getfield 135, 3) := by decide +kernel
theorem dX11_agesBehind_58 : decode cX11_agesBehind 58 = .ok (.iload_n 1, 1) := by decide +kernel
theorem dX11_agesBehind_59 : decode cX11_agesBehind 59 = .ok (.iconst (-1), 1) := by decide +kernel
theorem dX11_agesBehind_60 : decode cX11_agesBehind 60 = .ok (.iastore, 1) := by decide +kernel
theorem dX11_agesBehind_61 : decode cX11_agesBehind 61 = .ok (.return_, 1) := by decide +kernel
theorem dX11_agesBehind_62 : decode cX11_agesBehind 62 = .ok (.aload_n 0, 1) := by decide +kernel
theorem dX11_agesBehind_63 : decode cX11_agesBehind 63 = .ok (.getfield 132, 3) := by decide +kernel
theorem dX11_agesBehind_66 : decode cX11_agesBehind 66 = .ok (.iload_n 1, 1) := by decide +kernel
theorem dX11_agesBehind_67 : decode cX11_agesBehind 67 = .ok (.iaload, 1) := by decide +kernel
theorem dX11_agesBehind_68 : decode cX11_agesBehind 68 = .ok (.iconst (-1), 1) := by decide +kernel
theorem dX11_agesBehind_69 : decode cX11_agesBehind 69 = .ok (.if_icmp .eq 18, 3) := by decide +kernel
theorem dX11_agesBehind_72 : decode cX11_agesBehind 72 = .ok (.aload_n 0, 1) := by decide +kernel
theorem dX11_agesBehind_73 : decode cX11_agesBehind 73 = .ok (.getfield 132, 3) := by decide +kernel
theorem dX11_agesBehind_76 : decode cX11_agesBehind 76 = .ok (.iload_n 3, 1) := by decide +kernel
theorem dX11_agesBehind_77 : decode cX11_agesBehind 77 = .ok (.iaload, 1) := by decide +kernel
theorem dX11_agesBehind_78 : decode cX11_agesBehind 78 = .ok (.aload_n 0, 1) := by decide +kernel
theorem dX11_agesBehind_79 : decode cX11_agesBehind 79 = .ok (.getfield 132, 3) := by decide +kernel
theorem dX11_agesBehind_82 : decode cX11_agesBehind 82 = .ok (.iload_n 1, 1) := by decide +kernel
theorem dX11_agesBehind_83 : decode cX11_agesBehind 83 = .ok (.iaload, 1) := by decide +kernel
theorem dX11_agesBehind_84 : decode cX11_agesBehind 84 = .ok (.if_icmp .ge 15, 3) := by decide +kernel
theorem dX11_agesBehind_87 : decode cX11_agesBehind 87 = .ok (.aload_n 0, 1) := by decide +kernel
theorem dX11_agesBehind_88 : decode cX11_agesBehind 88 = .ok (.getfield 132, 3) := by decide +kernel
theorem dX11_agesBehind_91 : decode cX11_agesBehind 91 = .ok (.iload_n 1, 1) := by decide +kernel
theorem dX11_agesBehind_92 : decode cX11_agesBehind 92 = .ok (.aload_n 0, 1) := by decide +kernel
theorem dX11_agesBehind_93 : decode cX11_agesBehind 93 = .ok (.getfield 132, 3) := by decide +kernel
theorem dX11_agesBehind_96 : decode cX11_agesBehind 96 = .ok (.iload_n 3, 1) := by decide +kernel
theorem dX11_agesBehind_97 : decode cX11_agesBehind 97 = .ok (.iaload, 1) := by decide +kernel
theorem dX11_agesBehind_98 : decode cX11_agesBehind 98 = .ok (.iastore, 1) := by decide +kernel
theorem dX11_agesBehind_99 : decode cX11_agesBehind 99 = .ok (.aload_n 0, 1) := by decide +kernel
theorem dX11_agesBehind_100 : decode cX11_agesBehind 100 = .ok (.getfield 135, 3) := by decide +kernel
theorem dX11_agesBehind_103 : decode cX11_agesBehind 103 = .ok (.iload_n 3, 1) := by decide +kernel
theorem dX11_agesBehind_104 : decode cX11_agesBehind 104 = .ok (.iaload, 1) := by decide +kernel
theorem dX11_agesBehind_105 : decode cX11_agesBehind 105 = .ok (.aload_n 0, 1) := by decide +kernel
theorem dX11_agesBehind_106 : decode cX11_agesBehind 106 = .ok (.getfield 135, 3) := by decide +kernel
theorem dX11_agesBehind_109 : decode cX11_agesBehind 109 = .ok (.iload_n 1, 1) := by decide +kernel
theorem dX11_agesBehind_110 : decode cX11_agesBehind 110 = .ok (.iaload, 1) := by decide +kernel
theorem dX11_agesBehind_111 : decode cX11_agesBehind 111 = .ok (.if_icmp .le 15, 3) := by decide +kernel
theorem dX11_agesBehind_114 : decode cX11_agesBehind 114 = .ok (.aload_n 0, 1) := by decide +kernel
theorem dX11_agesBehind_115 : decode cX11_agesBehind 115 = .ok (.getfield 135, 3) := by decide +kernel
theorem dX11_agesBehind_118 : decode cX11_agesBehind 118 = .ok (.iload_n 1, 1) := by decide +kernel
theorem dX11_agesBehind_119 : decode cX11_agesBehind 119 = .ok (.aload_n 0, 1) := by decide +kernel
theorem dX11_agesBehind_120 : decode cX11_agesBehind 120 = .ok (.getfield 135, 3) := by decide +kernel
theorem dX11_agesBehind_123 : decode cX11_agesBehind 123 = .ok (.iload_n 3, 1) := by decide +kernel
theorem dX11_agesBehind_124 : decode cX11_agesBehind 124 = .ok (.iaload, 1) := by decide +kernel
theorem dX11_agesBehind_125 : decode cX11_agesBehind 125 = .ok (.iastore, 1) := by decide +kernel
theorem dX11_agesBehind_126 : decode cX11_agesBehind 126 = .ok (.iinc 2 1, 3) := by decide +kernel
theorem dX11_agesBehind_129 : decode cX11_agesBehind 129 = .ok (.goto (-113), 3) := by decide +kernel
theorem dX11_agesBehind_132 : decode cX11_agesBehind 132 = .ok (.return_, 1) := by decide +kernel
theorem dX11_ownerOf_0 : decode cX11_ownerOf 0 = .ok (.iload_n 1, 1) := by decide +kernel
theorem dX11_ownerOf_1 : decode cX11_ownerOf 1 = .ok (.istore_n 2, 1) := by decide +kernel
theorem dX11_ownerOf_2 : decode cX11_ownerOf 2 = .ok (.aload_n 0, 1) := by decide +kernel
theorem dX11_ownerOf_3 : decode cX11_ownerOf 3 = .ok (.getfield 36, 3) := by decide +kernel
theorem dX11_ownerOf_6 : decode cX11_ownerOf 6 = .ok (.iload_n 2, 1) := by decide +kernel
theorem dX11_ownerOf_7 : decode cX11_ownerOf 7 = .ok (.iaload, 1) := by decide +kernel
theorem dX11_ownerOf_8 : decode cX11_ownerOf 8 = .ok (.iconst (-1), 1) := by decide +kernel
theorem dX11_ownerOf_9 : decode cX11_ownerOf 9 = .ok (.if_icmp .ne 24, 3) := by decide +kernel
theorem dX11_ownerOf_12 : decode cX11_ownerOf 12 = .ok (.aload_n 0, 1) := by decide +kernel
theorem dX11_ownerOf_13 : decode cX11_ownerOf 13 = .ok (.getfield 30, 3) := by decide +kernel
theorem dX11_ownerOf_16 : decode cX11_ownerOf 16 = .ok (.iload_n 2, 1) := by decide +kernel
theorem dX11_ownerOf_17 : decode cX11_ownerOf 17 = .ok (.iaload, 1) := by decide +kernel
theorem dX11_ownerOf_18 : decode cX11_ownerOf 18 = .ok (.ifCond .le 15, 3) := by decide +kernel
theorem dX11_ownerOf_21 : decode cX11_ownerOf 21 = .ok (.aload_n 0, 1) := by decide +kernel
theorem dX11_ownerOf_22 : decode cX11_ownerOf 22 = .ok (.getfield 33, 3) := by decide +kernel
theorem dX11_ownerOf_25 : decode cX11_ownerOf 25 = .ok (.iconst 3, 1) := by decide +kernel
theorem dX11_ownerOf_26 : decode cX11_ownerOf 26 = .ok (.iload_n 2, 1) := by decide +kernel
theorem dX11_ownerOf_27 : decode cX11_ownerOf 27 = .ok (.imul, 1) := by decide +kernel
theorem dX11_ownerOf_28 : decode cX11_ownerOf 28 = .ok (.iaload, 1) := by decide +kernel
theorem dX11_ownerOf_29 : decode cX11_ownerOf 29 = .ok (.istore_n 2, 1) := by decide +kernel
theorem dX11_ownerOf_30 : decode cX11_ownerOf 30 = .ok (.goto (-28), 3) := by decide +kernel
theorem dX11_ownerOf_33 : decode cX11_ownerOf 33 = .ok (.aload_n 0, 1) := by decide +kernel
theorem dX11_ownerOf_34 : decode cX11_ownerOf 34 = .ok (.getfield 36, 3) := by decide +kernel
theorem dX11_ownerOf_37 : decode cX11_ownerOf 37 = .ok (.iload_n 2, 1) := by decide +kernel
theorem dX11_ownerOf_38 : decode cX11_ownerOf 38 = .ok (.iaload, 1) := by decide +kernel
theorem dX11_ownerOf_39 : decode cX11_ownerOf 39 = .ok (.ireturn, 1) := by decide +kernel
theorem dX11_table_0 : decode cX11_table 0 = .ok (.aload_n 0, 1) := by decide +kernel
theorem dX11_table_1 : decode cX11_table 1 = .ok (.iload_n 1, 1) := by decide +kernel
theorem dX11_table_2 : decode cX11_table 2 = .ok (.invokevirtual 162, 3) := by decide +kernel
theorem dX11_table_5 : decode cX11_table 5 = .ok (.ifCond .eq 13, 3) := by decide +kernel
theorem dX11_table_8 : decode cX11_table 8 = .ok (.iload_n 2, 1) := by decide +kernel
theorem dX11_table_9 : decode cX11_table 9 = .ok (.ifCond .lt 9, 3) := by decide +kernel
theorem dX11_table_12 : decode cX11_table 12 = .ok (.iload_n 2, 1) := by decide +kernel
theorem dX11_table_13 : decode cX11_table 13 = .ok (.bipush 9, 2) := by decide +kernel
theorem dX11_table_15 : decode cX11_table 15 = .ok (.if_icmp .le 5, 3) := by decide +kernel
theorem dX11_table_18 : decode cX11_table 18 = .ok (.iconst (-1), 1) := by decide +kernel
theorem dX11_table_19 : decode cX11_table 19 = .ok (.ireturn, 1) := by decide +kernel
theorem dX11_table_20 : decode cX11_table 20 = .ok (.aload_n 0, 1) := by decide +kernel
theorem dX11_table_21 : decode cX11_table 21 = .ok (.invokevirtual 313, 3) := by decide +kernel
theorem dX11_table_24 : decode cX11_table 24 = .ok (.iload_n 2, 1) := by decide +kernel
theorem dX11_table_25 : decode cX11_table 25 = .ok (.tableswitch 121 0 8 #[51, 58, 65, 72, 72, 72, 101, 108, 115], 51) := by decide +kernel
theorem dX11_table_76 : decode cX11_table 76 = .ok (.aload_n 0, 1) := by decide +kernel
theorem dX11_table_77 : decode cX11_table 77 = .ok (.getfield 17, 3) := by decide +kernel
theorem dX11_table_80 : decode cX11_table 80 = .ok (.iload_n 1, 1) := by decide +kernel
theorem dX11_table_81 : decode cX11_table 81 = .ok (.iaload, 1) := by decide +kernel
theorem dX11_table_82 : decode cX11_table 82 = .ok (.ireturn, 1) := by decide +kernel
theorem dX11_table_83 : decode cX11_table 83 = .ok (.aload_n 0, 1) := by decide +kernel
theorem dX11_table_84 : decode cX11_table 84 = .ok (.getfield 21, 3) := by decide +kernel
theorem dX11_table_87 : decode cX11_table 87 = .ok (.iload_n 1, 1) := by decide +kernel
theorem dX11_table_88 : decode cX11_table 88 = .ok (.iaload, 1) := by decide +kernel
theorem dX11_table_89 : decode cX11_table 89 = .ok (.ireturn, 1) := by decide +kernel
theorem dX11_table_90 : decode cX11_table 90 = .ok (.aload_n 0, 1) := by decide +kernel
theorem dX11_table_91 : decode cX11_table 91 = .ok (.getfield 30, 3) := by decide +kernel
theorem dX11_table_94 : decode cX11_table 94 = .ok (.iload_n 1, 1) := by decide +kernel
theorem dX11_table_95 : decode cX11_table 95 = .ok (.iaload, 1) := by decide +kernel
theorem dX11_table_96 : decode cX11_table 96 = .ok (.ireturn, 1) := by decide +kernel
theorem dX11_table_97 : decode cX11_table 97 = .ok (.iload_n 2, 1) := by decide +kernel
theorem dX11_table_98 : decode cX11_table 98 = .ok (.iconst 3, 1) := by decide +kernel
theorem dX11_table_99 : decode cX11_table 99 = .ok (.isub, 1) := by decide +kernel
theorem dX11_table_100 : decode cX11_table 100 = .ok (.aload_n 0, 1) := by decide +kernel
theorem dX11_table_101 : decode cX11_table 101 = .ok (.getfield 30, 3) := by decide +kernel
theorem dX11_table_104 : decode cX11_table 104 = .ok (.iload_n 1, 1) := by decide +kernel
theorem dX11_table_105 : decode cX11_table 105 = .ok (.iaload, 1) := by decide +kernel
theorem dX11_table_106 : decode cX11_table 106 = .ok (.if_icmp .ge 18, 3) := by decide +kernel
theorem dX11_table_109 : decode cX11_table 109 = .ok (.aload_n 0, 1) := by decide +kernel
theorem dX11_table_110 : decode cX11_table 110 = .ok (.getfield 33, 3) := by decide +kernel
theorem dX11_table_113 : decode cX11_table 113 = .ok (.iconst 3, 1) := by decide +kernel
theorem dX11_table_114 : decode cX11_table 114 = .ok (.iload_n 1, 1) := by decide +kernel
theorem dX11_table_115 : decode cX11_table 115 = .ok (.imul, 1) := by decide +kernel
theorem dX11_table_116 : decode cX11_table 116 = .ok (.iload_n 2, 1) := by decide +kernel
theorem dX11_table_117 : decode cX11_table 117 = .ok (.iadd, 1) := by decide +kernel
theorem dX11_table_118 : decode cX11_table 118 = .ok (.iconst 3, 1) := by decide +kernel
theorem dX11_table_119 : decode cX11_table 119 = .ok (.isub, 1) := by decide +kernel
theorem dX11_table_120 : decode cX11_table 120 = .ok (.iaload, 1) := by decide +kernel
theorem dX11_table_121 : decode cX11_table 121 = .ok (.goto 4, 3) := by decide +kernel
theorem dX11_table_124 : decode cX11_table 124 = .ok (.iconst (-1), 1) := by decide +kernel
theorem dX11_table_125 : decode cX11_table 125 = .ok (.ireturn, 1) := by decide +kernel
theorem dX11_table_126 : decode cX11_table 126 = .ok (.aload_n 0, 1) := by decide +kernel
theorem dX11_table_127 : decode cX11_table 127 = .ok (.getfield 132, 3) := by decide +kernel
theorem dX11_table_130 : decode cX11_table 130 = .ok (.iload_n 1, 1) := by decide +kernel
theorem dX11_table_131 : decode cX11_table 131 = .ok (.iaload, 1) := by decide +kernel
theorem dX11_table_132 : decode cX11_table 132 = .ok (.ireturn, 1) := by decide +kernel
theorem dX11_table_133 : decode cX11_table 133 = .ok (.aload_n 0, 1) := by decide +kernel
theorem dX11_table_134 : decode cX11_table 134 = .ok (.getfield 135, 3) := by decide +kernel
theorem dX11_table_137 : decode cX11_table 137 = .ok (.iload_n 1, 1) := by decide +kernel
theorem dX11_table_138 : decode cX11_table 138 = .ok (.iaload, 1) := by decide +kernel
theorem dX11_table_139 : decode cX11_table 139 = .ok (.ireturn, 1) := by decide +kernel
theorem dX11_table_140 : decode cX11_table 140 = .ok (.aload_n 0, 1) := by decide +kernel
theorem dX11_table_141 : decode cX11_table 141 = .ok (.iload_n 1, 1) := by decide +kernel
theorem dX11_table_142 : decode cX11_table 142 = .ok (.invokevirtual 316, 3) := by decide +kernel
theorem dX11_table_145 : decode cX11_table 145 = .ok (.ireturn, 1) := by decide +kernel
theorem dX11_table_146 : decode cX11_table 146 = .ok (.aload_n 0, 1) := by decide +kernel
theorem dX11_table_147 : decode cX11_table 147 = .ok (.getfield 39, 3) := by decide +kernel
theorem dX11_table_150 : decode cX11_table 150 = .ok (.iload_n 1, 1) := by decide +kernel
theorem dX11_table_151 : decode cX11_table 151 = .ok (.iaload, 1) := by decide +kernel
theorem dX11_table_152 : decode cX11_table 152 = .ok (.ireturn, 1) := by decide +kernel
theorem dX11_type_0 : decode cX11_type 0 = .ok (.aload_n 0, 1) := by decide +kernel
theorem dX11_type_1 : decode cX11_type 1 = .ok (.iload_n 1, 1) := by decide +kernel
theorem dX11_type_2 : decode cX11_type 2 = .ok (.iload_n 2, 1) := by decide +kernel
theorem dX11_type_3 : decode cX11_type 3 = .ok (.invokevirtual 320, 3) := by decide +kernel
theorem dX11_type_6 : decode cX11_type 6 = .ok (.ifCond .eq 17, 3) := by decide +kernel
theorem dX11_type_9 : decode cX11_type 9 = .ok (.aload_n 0, 1) := by decide +kernel
theorem dX11_type_10 : decode cX11_type 10 = .ok (.getfield 27, 3) := by decide +kernel
theorem dX11_type_13 : decode cX11_type 13 = .ok (.bipush 8, 2) := by decide +kernel
theorem dX11_type_15 : decode cX11_type 15 = .ok (.iload_n 1, 1) := by decide +kernel
theorem dX11_type_16 : decode cX11_type 16 = .ok (.imul, 1) := by decide +kernel
theorem dX11_type_17 : decode cX11_type 17 = .ok (.iload_n 2, 1) := by decide +kernel
theorem dX11_type_18 : decode cX11_type 18 = .ok (.iadd, 1) := by decide +kernel
theorem dX11_type_19 : decode cX11_type 19 = .ok (.iaload, 1) := by decide +kernel
theorem dX11_type_20 : decode cX11_type 20 = .ok (.goto 4, 3) := by decide +kernel
theorem dX11_type_23 : decode cX11_type 23 = .ok (.iconst (-1), 1) := by decide +kernel
theorem dX11_type_24 : decode cX11_type 24 = .ok (.ireturn, 1) := by decide +kernel
theorem dX11_found_0 : decode cX11_found 0 = .ok (.iload_n 1, 1) := by decide +kernel
theorem dX11_found_1 : decode cX11_found 1 = .ok (.ifCond .lt 20, 3) := by decide +kernel
theorem dX11_found_4 : decode cX11_found 4 = .ok (.iload_n 1, 1) := by decide +kernel
theorem dX11_found_5 : decode cX11_found 5 = .ok (.aload_n 0, 1) := by decide +kernel
theorem dX11_found_6 : decode cX11_found 6 = .ok (.getfield 324, 3) := by decide +kernel
theorem dX11_found_9 : decode cX11_found 9 = .ok (.if_icmp .ge 12, 3) := by decide +kernel
theorem dX11_found_12 : decode cX11_found 12 = .ok (.aload_n 0, 1) := by decide +kernel
theorem dX11_found_13 : decode cX11_found 13 = .ok (.getfield 141, 3) := by decide +kernel
theorem dX11_found_16 : decode cX11_found 16 = .ok (.iload_n 1, 1) := by decide +kernel
theorem dX11_found_17 : decode cX11_found 17 = .ok (.iaload, 1) := by decide +kernel
theorem dX11_found_18 : decode cX11_found 18 = .ok (.goto 4, 3) := by decide +kernel
theorem dX11_found_21 : decode cX11_found 21 = .ok (.iconst (-1), 1) := by decide +kernel
theorem dX11_found_22 : decode cX11_found 22 = .ok (.ireturn, 1) := by decide +kernel
theorem dX11_finds_0 : decode cX11_finds 0 = .ok (.aload_n 0, 1) := by decide +kernel
theorem dX11_finds_1 : decode cX11_finds 1 = .ok (.getfield 141, 3) := by decide +kernel
theorem dX11_finds_4 : decode cX11_finds 4 = .ok (.aload_n 0, 1) := by decide +kernel
theorem dX11_finds_5 : decode cX11_finds 5 = .ok (.getfield 324, 3) := by decide +kernel
theorem dX11_finds_8 : decode cX11_finds 8 = .ok (.iload_n 1, 1) := by decide +kernel
theorem dX11_finds_9 : decode cX11_finds 9 = .ok (.iastore, 1) := by decide +kernel
theorem dX11_finds_10 : decode cX11_finds 10 = .ok (.aload_n 0, 1) := by decide +kernel
theorem dX11_finds_11 : decode cX11_finds 11 = .ok (.dup, 1) := by decide +kernel
theorem dX11_finds_12 : decode cX11_finds 12 = .ok (.getfield 324, 3) := by decide +kernel
theorem dX11_finds_15 : decode cX11_finds 15 = .ok (.iconst 1, 1) := by decide +kernel
theorem dX11_finds_16 : decode cX11_finds 16 = .ok (.iadd, 1) := by decide +kernel
theorem dX11_finds_17 : decode cX11_finds 17 = .ok (.putfield 324, 3) := by decide +kernel
theorem dX11_finds_20 : decode cX11_finds 20 = .ok (.return_, 1) := by decide +kernel
theorem dX11_usedAt_0 : decode cX11_usedAt 0 = .ok (.aload_n 0, 1) := by decide +kernel
theorem dX11_usedAt_1 : decode cX11_usedAt 1 = .ok (.iload_n 1, 1) := by decide +kernel
theorem dX11_usedAt_2 : decode cX11_usedAt 2 = .ok (.aload_n 0, 1) := by decide +kernel
theorem dX11_usedAt_3 : decode cX11_usedAt 3 = .ok (.iload_n 1, 1) := by decide +kernel
theorem dX11_usedAt_4 : decode cX11_usedAt 4 = .ok (.iload_n 2, 1) := by decide +kernel
theorem dX11_usedAt_5 : decode cX11_usedAt 5 = .ok (.invokevirtual 274, 3) := by decide +kernel
theorem dX11_usedAt_8 : decode cX11_usedAt 8 = .ok (.invokevirtual 281, 3) := by decide +kernel
theorem dX11_usedAt_11 : decode cX11_usedAt 11 = .ok (.istore_n 3, 1) := by decide +kernel
theorem dX11_usedAt_12 : decode cX11_usedAt 12 = .ok (.bipush 8, 2) := by decide +kernel
theorem dX11_usedAt_14 : decode cX11_usedAt 14 = .ok (.iload_n 3, 1) := by decide +kernel
theorem dX11_usedAt_15 : decode cX11_usedAt 15 = .ok (.imul, 1) := by decide +kernel
theorem dX11_usedAt_16 : decode cX11_usedAt 16 = .ok (.aload_n 0, 1) := by decide +kernel
theorem dX11_usedAt_17 : decode cX11_usedAt 17 = .ok (.iload_n 3, 1) := by decide +kernel
theorem dX11_usedAt_18 : decode cX11_usedAt 18 = .ok (.aload_n 0, 1) := by decide +kernel
theorem dX11_usedAt_19 : decode cX11_usedAt 19 = .ok (.iload_n 1, 1) := by decide +kernel
theorem dX11_usedAt_20 : decode cX11_usedAt 20 = .ok (.iload_n 2, 1) := by decide +kernel
theorem dX11_usedAt_21 : decode cX11_usedAt 21 = .ok (.iconst 2, 1) := by decide +kernel
theorem dX11_usedAt_22 : decode cX11_usedAt 22 = .ok (.iadd, 1) := by decide +kernel
theorem dX11_usedAt_23 : decode cX11_usedAt 23 = .ok (.invokevirtual 274, 3) := by decide +kernel
theorem dX11_usedAt_26 : decode cX11_usedAt 26 = .ok (.invokevirtual 285, 3) := by decide +kernel
theorem dX11_usedAt_29 : decode cX11_usedAt 29 = .ok (.iadd, 1) := by decide +kernel
theorem dX11_usedAt_30 : decode cX11_usedAt 30 = .ok (.ireturn, 1) := by decide +kernel
theorem dX11_isNameAt_0 : decode cX11_isNameAt 0 = .ok (.aload_n 0, 1) := by decide +kernel
theorem dX11_isNameAt_1 : decode cX11_isNameAt 1 = .ok (.getfield 51, 3) := by decide +kernel
theorem dX11_isNameAt_4 : decode cX11_isNameAt 4 = .ok (.sipush 400, 3) := by decide +kernel
theorem dX11_isNameAt_7 : decode cX11_isNameAt 7 = .ok (.iload_n 1, 1) := by decide +kernel
theorem dX11_isNameAt_8 : decode cX11_isNameAt 8 = .ok (.imul, 1) := by decide +kernel
theorem dX11_isNameAt_9 : decode cX11_isNameAt 9 = .ok (.iload_n 2, 1) := by decide +kernel
theorem dX11_isNameAt_10 : decode cX11_isNameAt 10 = .ok (.iadd, 1) := by decide +kernel
theorem dX11_isNameAt_11 : decode cX11_isNameAt 11 = .ok (.iaload, 1) := by decide +kernel
theorem dX11_isNameAt_12 : decode cX11_isNameAt 12 = .ok (.iconst 1, 1) := by decide +kernel
theorem dX11_isNameAt_13 : decode cX11_isNameAt 13 = .ok (.if_icmp .ne 26, 3) := by decide +kernel
theorem dX11_isNameAt_16 : decode cX11_isNameAt 16 = .ok (.aload_n 0, 1) := by decide +kernel
theorem dX11_isNameAt_17 : decode cX11_isNameAt 17 = .ok (.getfield 51, 3) := by decide +kernel
theorem dX11_isNameAt_20 : decode cX11_isNameAt 20 = .ok (.sipush 400, 3) := by decide +kernel
theorem dX11_isNameAt_23 : decode cX11_isNameAt 23 = .ok (.iload_n 1, 1) := by decide +kernel
theorem dX11_isNameAt_24 : decode cX11_isNameAt 24 = .ok (.imul, 1) := by decide +kernel
theorem dX11_isNameAt_25 : decode cX11_isNameAt 25 = .ok (.iload_n 2, 1) := by decide +kernel
theorem dX11_isNameAt_26 : decode cX11_isNameAt 26 = .ok (.iadd, 1) := by decide +kernel
theorem dX11_isNameAt_27 : decode cX11_isNameAt 27 = .ok (.iconst 1, 1) := by decide +kernel
theorem dX11_isNameAt_28 : decode cX11_isNameAt 28 = .ok (.iadd, 1) := by decide +kernel
theorem dX11_isNameAt_29 : decode cX11_isNameAt 29 = .ok (.iaload, 1) := by decide +kernel
theorem dX11_isNameAt_30 : decode cX11_isNameAt 30 = .ok (.bipush 46, 2) := by decide +kernel
theorem dX11_isNameAt_32 : decode cX11_isNameAt 32 = .ok (.if_icmp .ne 7, 3) := by decide +kernel
theorem dX11_isNameAt_35 : decode cX11_isNameAt 35 = .ok (.iconst 1, 1) := by decide +kernel
theorem dX11_isNameAt_36 : decode cX11_isNameAt 36 = .ok (.goto 4, 3) := by decide +kernel
theorem dX11_isNameAt_39 : decode cX11_isNameAt 39 = .ok (.iconst 0, 1) := by decide +kernel
theorem dX11_isNameAt_40 : decode cX11_isNameAt 40 = .ok (.ireturn, 1) := by decide +kernel
theorem dX11_usesMarked_0 : decode cX11_usesMarked 0 = .ok (.aload_n 0, 1) := by decide +kernel
theorem dX11_usesMarked_1 : decode cX11_usesMarked 1 = .ok (.getfield 63, 3) := by decide +kernel
theorem dX11_usesMarked_4 : decode cX11_usesMarked 4 = .ok (.bipush 8, 2) := by decide +kernel
theorem dX11_usesMarked_6 : decode cX11_usesMarked 6 = .ok (.iload_n 1, 1) := by decide +kernel
theorem dX11_usesMarked_7 : decode cX11_usesMarked 7 = .ok (.imul, 1) := by decide +kernel
theorem dX11_usesMarked_8 : decode cX11_usesMarked 8 = .ok (.iload_n 2, 1) := by decide +kernel
theorem dX11_usesMarked_9 : decode cX11_usesMarked 9 = .ok (.iadd, 1) := by decide +kernel
theorem dX11_usesMarked_10 : decode cX11_usesMarked 10 = .ok (.iaload, 1) := by decide +kernel
theorem dX11_usesMarked_11 : decode cX11_usesMarked 11 = .ok (.istore_n 3, 1) := by decide +kernel
theorem dX11_usesMarked_12 : decode cX11_usesMarked 12 = .ok (.iload_n 3, 1) := by decide +kernel
theorem dX11_usesMarked_13 : decode cX11_usesMarked 13 = .ok (.aload_n 0, 1) := by decide +kernel
theorem dX11_usesMarked_14 : decode cX11_usesMarked 14 = .ok (.getfield 66, 3) := by decide +kernel
theorem dX11_usesMarked_17 : decode cX11_usesMarked 17 = .ok (.bipush 8, 2) := by decide +kernel
theorem dX11_usesMarked_19 : decode cX11_usesMarked 19 = .ok (.iload_n 1, 1) := by decide +kernel
theorem dX11_usesMarked_20 : decode cX11_usesMarked 20 = .ok (.imul, 1) := by decide +kernel
theorem dX11_usesMarked_21 : decode cX11_usesMarked 21 = .ok (.iload_n 2, 1) := by decide +kernel
theorem dX11_usesMarked_22 : decode cX11_usesMarked 22 = .ok (.iadd, 1) := by decide +kernel
theorem dX11_usesMarked_23 : decode cX11_usesMarked 23 = .ok (.iaload, 1) := by decide +kernel
theorem dX11_usesMarked_24 : decode cX11_usesMarked 24 = .ok (.if_icmp .ge 40, 3) := by decide +kernel
theorem dX11_usesMarked_27 : decode cX11_usesMarked 27 = .ok (.aload_n 0, 1) := by decide +kernel
theorem dX11_usesMarked_28 : decode cX11_usesMarked 28 = .ok (.iload_n 1, 1) := by decide +kernel
theorem dX11_usesMarked_29 : decode cX11_usesMarked 29 = .ok (.iload_n 3, 1) := by decide +kernel
theorem dX11_usesMarked_30 : decode cX11_usesMarked 30 = .ok (.invokevirtual 327, 3) := by decide +kernel
theorem dX11_usesMarked_33 : decode cX11_usesMarked 33 = .ok (.ifCond .ne 6, 3) := by decide +kernel
theorem dX11_usesMarked_36 : decode cX11_usesMarked 36 = .ok (.goto 22, 3) := by decide +kernel
theorem dX11_usesMarked_39 : decode cX11_usesMarked 39 = .ok (.aload_n 0, 1) := by decide +kernel
theorem dX11_usesMarked_40 : decode cX11_usesMarked 40 = .ok (.getfield 138, 3) := by decide +kernel
theorem dX11_usesMarked_43 : decode cX11_usesMarked 43 = .ok (.aload_n 0, 1) := by decide +kernel
theorem dX11_usesMarked_44 : decode cX11_usesMarked 44 = .ok (.iload_n 1, 1) := by decide +kernel
theorem dX11_usesMarked_45 : decode cX11_usesMarked 45 = .ok (.iload_n 3, 1) := by decide +kernel
theorem dX11_usesMarked_46 : decode cX11_usesMarked 46 = .ok (.invokevirtual 330, 3) := by decide +kernel
theorem dX11_usesMarked_49 : decode cX11_usesMarked 49 = .ok (.baload, 1) := by decide +kernel
theorem dX11_usesMarked_50 : decode cX11_usesMarked 50 = .ok (.ifCond .eq 5, 3) := by decide +kernel
theorem dX11_usesMarked_53 : decode cX11_usesMarked 53 = .ok (.iconst 1, 1) := by decide +kernel
theorem dX11_usesMarked_54 : decode cX11_usesMarked 54 = .ok (.ireturn, 1) := by decide +kernel
theorem dX11_usesMarked_55 : decode cX11_usesMarked 55 = .ok (.iinc 3 2, 3) := by decide +kernel
theorem dX11_usesMarked_58 : decode cX11_usesMarked 58 = .ok (.iinc 3 1, 3) := by decide +kernel
theorem dX11_usesMarked_61 : decode cX11_usesMarked 61 = .ok (.goto (-49), 3) := by decide +kernel
theorem dX11_usesMarked_64 : decode cX11_usesMarked 64 = .ok (.iconst 0, 1) := by decide +kernel
theorem dX11_usesMarked_65 : decode cX11_usesMarked 65 = .ok (.ireturn, 1) := by decide +kernel
theorem dX11_marksUsed_0 : decode cX11_marksUsed 0 = .ok (.aload_n 0, 1) := by decide +kernel
theorem dX11_marksUsed_1 : decode cX11_marksUsed 1 = .ok (.getfield 63, 3) := by decide +kernel
theorem dX11_marksUsed_4 : decode cX11_marksUsed 4 = .ok (.bipush 8, 2) := by decide +kernel
theorem dX11_marksUsed_6 : decode cX11_marksUsed 6 = .ok (.iload_n 1, 1) := by decide +kernel
theorem dX11_marksUsed_7 : decode cX11_marksUsed 7 = .ok (.imul, 1) := by decide +kernel
theorem dX11_marksUsed_8 : decode cX11_marksUsed 8 = .ok (.iload_n 2, 1) := by decide +kernel
theorem dX11_marksUsed_9 : decode cX11_marksUsed 9 = .ok (.iadd, 1) := by decide +kernel
theorem dX11_marksUsed_10 : decode cX11_marksUsed 10 = .ok (.iaload, 1) := by decide +kernel
theorem dX11_marksUsed_11 : decode cX11_marksUsed 11 = .ok (.istore_n 3, 1) := by decide +kernel
theorem dX11_marksUsed_12 : decode cX11_marksUsed 12 = .ok (.iload_n 3, 1) := by decide +kernel
theorem dX11_marksUsed_13 : decode cX11_marksUsed 13 = .ok (.aload_n 0, 1) := by decide +kernel
theorem dX11_marksUsed_14 : decode cX11_marksUsed 14 = .ok (.getfield 66, 3) := by decide +kernel
theorem dX11_marksUsed_17 : decode cX11_marksUsed 17 = .ok (.bipush 8, 2) := by decide +kernel
theorem dX11_marksUsed_19 : decode cX11_marksUsed 19 = .ok (.iload_n 1, 1) := by decide +kernel
theorem dX11_marksUsed_20 : decode cX11_marksUsed 20 = .ok (.imul, 1) := by decide +kernel
theorem dX11_marksUsed_21 : decode cX11_marksUsed 21 = .ok (.iload_n 2, 1) := by decide +kernel
theorem dX11_marksUsed_22 : decode cX11_marksUsed 22 = .ok (.iadd, 1) := by decide +kernel
theorem dX11_marksUsed_23 : decode cX11_marksUsed 23 = .ok (.iaload, 1) := by decide +kernel
theorem dX11_marksUsed_24 : decode cX11_marksUsed 24 = .ok (.if_icmp .ge 36, 3) := by decide +kernel
theorem dX11_marksUsed_27 : decode cX11_marksUsed 27 = .ok (.aload_n 0, 1) := by decide +kernel
theorem dX11_marksUsed_28 : decode cX11_marksUsed 28 = .ok (.iload_n 1, 1) := by decide +kernel
theorem dX11_marksUsed_29 : decode cX11_marksUsed 29 = .ok (.iload_n 3, 1) := by decide +kernel
theorem dX11_marksUsed_30 : decode cX11_marksUsed 30 = .ok (.invokevirtual 327, 3) := by decide +kernel
theorem dX11_marksUsed_33 : decode cX11_marksUsed 33 = .ok (.ifCond .ne 6, 3) := by decide +kernel
theorem dX11_marksUsed_36 : decode cX11_marksUsed 36 = .ok (.goto 18, 3) := by decide +kernel
theorem dX11_marksUsed_39 : decode cX11_marksUsed 39 = .ok (.aload_n 0, 1) := by decide +kernel
theorem dX11_marksUsed_40 : decode cX11_marksUsed 40 = .ok (.getfield 138, 3) := by decide +kernel
theorem dX11_marksUsed_43 : decode cX11_marksUsed 43 = .ok (.aload_n 0, 1) := by decide +kernel
theorem dX11_marksUsed_44 : decode cX11_marksUsed 44 = .ok (.iload_n 1, 1) := by decide +kernel
theorem dX11_marksUsed_45 : decode cX11_marksUsed 45 = .ok (.iload_n 3, 1) := by decide +kernel
theorem dX11_marksUsed_46 : decode cX11_marksUsed 46 = .ok (.invokevirtual 330, 3) := by decide +kernel
theorem dX11_marksUsed_49 : decode cX11_marksUsed 49 = .ok (.iconst 1, 1) := by decide +kernel
theorem dX11_marksUsed_50 : decode cX11_marksUsed 50 = .ok (.bastore, 1) := by decide +kernel
theorem dX11_marksUsed_51 : decode cX11_marksUsed 51 = .ok (.iinc 3 2, 3) := by decide +kernel
theorem dX11_marksUsed_54 : decode cX11_marksUsed 54 = .ok (.iinc 3 1, 3) := by decide +kernel
theorem dX11_marksUsed_57 : decode cX11_marksUsed 57 = .ok (.goto (-45), 3) := by decide +kernel
theorem dX11_marksUsed_60 : decode cX11_marksUsed 60 = .ok (.return_, 1) := by decide +kernel
theorem dX11_clears_0 : decode cX11_clears 0 = .ok (.iconst 0, 1) := by decide +kernel
theorem dX11_clears_1 : decode cX11_clears 1 = .ok (.istore_n 1, 1) := by decide +kernel
theorem dX11_clears_2 : decode cX11_clears 2 = .ok (.iload_n 1, 1) := by decide +kernel
theorem dX11_clears_3 : decode cX11_clears 3 = .ok (.sipush 136, 3) := by decide +kernel
theorem dX11_clears_6 : decode cX11_clears 6 = .ok (.if_icmp .ge 16, 3) := by decide +kernel
theorem dX11_clears_9 : decode cX11_clears 9 = .ok (.aload_n 0, 1) := by decide +kernel
theorem dX11_clears_10 : decode cX11_clears 10 = .ok (.getfield 138, 3) := by decide +kernel
theorem dX11_clears_13 : decode cX11_clears 13 = .ok (.iload_n 1, 1) := by decide +kernel
theorem dX11_clears_14 : decode cX11_clears 14 = .ok (.iconst 0, 1) := by decide +kernel
theorem dX11_clears_15 : decode cX11_clears 15 = .ok (.bastore, 1) := by decide +kernel
theorem dX11_clears_16 : decode cX11_clears 16 = .ok (.iinc 1 1, 3) := by decide +kernel
theorem dX11_clears_19 : decode cX11_clears 19 = .ok (.goto (-17), 3) := by decide +kernel
theorem dX11_clears_22 : decode cX11_clears 22 = .ok (.return_, 1) := by decide +kernel
theorem dX11_from_0 : decode cX11_from 0 = .ok (.aload_n 0, 1) := by decide +kernel
theorem dX11_from_1 : decode cX11_from 1 = .ok (.iload_n 1, 1) := by decide +kernel
theorem dX11_from_2 : decode cX11_from 2 = .ok (.iload_n 2, 1) := by decide +kernel
theorem dX11_from_3 : decode cX11_from 3 = .ok (.invokevirtual 320, 3) := by decide +kernel
theorem dX11_from_6 : decode cX11_from 6 = .ok (.ifCond .eq 12, 3) := by decide +kernel
theorem dX11_from_9 : decode cX11_from 9 = .ok (.iload_n 3, 1) := by decide +kernel
theorem dX11_from_10 : decode cX11_from 10 = .ok (.ifCond .lt 8, 3) := by decide +kernel
theorem dX11_from_13 : decode cX11_from 13 = .ok (.iload_n 3, 1) := by decide +kernel
theorem dX11_from_14 : decode cX11_from 14 = .ok (.iconst 2, 1) := by decide +kernel
theorem dX11_from_15 : decode cX11_from 15 = .ok (.if_icmp .le 5, 3) := by decide +kernel
theorem dX11_from_18 : decode cX11_from 18 = .ok (.iconst (-1), 1) := by decide +kernel
theorem dX11_from_19 : decode cX11_from 19 = .ok (.ireturn, 1) := by decide +kernel
theorem dX11_from_20 : decode cX11_from 20 = .ok (.aload_n 0, 1) := by decide +kernel
theorem dX11_from_21 : decode cX11_from 21 = .ok (.invokevirtual 333, 3) := by decide +kernel
theorem dX11_from_24 : decode cX11_from 24 = .ok (.aload_n 0, 1) := by decide +kernel
theorem dX11_from_25 : decode cX11_from 25 = .ok (.getfield 17, 3) := by decide +kernel
theorem dX11_from_28 : decode cX11_from 28 = .ok (.iload_n 1, 1) := by decide +kernel
theorem dX11_from_29 : decode cX11_from 29 = .ok (.iaload, 1) := by decide +kernel
theorem dX11_from_30 : decode cX11_from 30 = .ok (.iconst 1, 1) := by decide +kernel
theorem dX11_from_31 : decode cX11_from 31 = .ok (.if_icmp .eq 13, 3) := by decide +kernel
theorem dX11_from_34 : decode cX11_from 34 = .ok (.aload_n 0, 1) := by decide +kernel
theorem dX11_from_35 : decode cX11_from 35 = .ok (.getfield 17, 3) := by decide +kernel
theorem dX11_from_38 : decode cX11_from 38 = .ok (.iload_n 1, 1) := by decide +kernel
theorem dX11_from_39 : decode cX11_from 39 = .ok (.iaload, 1) := by decide +kernel
theorem dX11_from_40 : decode cX11_from 40 = .ok (.iconst 2, 1) := by decide +kernel
theorem dX11_from_41 : decode cX11_from 41 = .ok (.if_icmp .ne 9, 3) := by decide +kernel
theorem dX11_from_44 : decode cX11_from 44 = .ok (.aload_n 0, 1) := by decide +kernel
theorem dX11_from_45 : decode cX11_from 45 = .ok (.iload_n 1, 1) := by decide +kernel
theorem dX11_from_46 : decode cX11_from 46 = .ok (.iload_n 2, 1) := by decide +kernel
theorem dX11_from_47 : decode cX11_from 47 = .ok (.invokevirtual 336, 3) := by decide +kernel
theorem dX11_from_50 : decode cX11_from 50 = .ok (.iload_n 1, 1) := by decide +kernel
theorem dX11_from_51 : decode cX11_from 51 = .ok (.iconst 1, 1) := by decide +kernel
theorem dX11_from_52 : decode cX11_from 52 = .ok (.isub, 1) := by decide +kernel
theorem dX11_from_53 : decode cX11_from 53 = .ok (.istore 4, 2) := by decide +kernel
theorem dX11_from_55 : decode cX11_from 55 = .ok (.iload 4, 2) := by decide +kernel
theorem dX11_from_57 : decode cX11_from 57 = .ok (.ifCond .lt 92, 3) := by decide +kernel
theorem dX11_from_60 : decode cX11_from 60 = .ok (.iload_n 3, 1) := by decide +kernel
theorem dX11_from_61 : decode cX11_from 61 = .ok (.ifCond .le 88, 3) := by decide +kernel
theorem dX11_from_64 : decode cX11_from 64 = .ok (.aload_n 0, 1) := by decide +kernel
theorem dX11_from_65 : decode cX11_from 65 = .ok (.getfield 17, 3) := by decide +kernel
theorem dX11_from_68 : decode cX11_from 68 = .ok (.iload 4, 2) := by decide +kernel
theorem dX11_from_70 : decode cX11_from 70 = .ok (.iaload, 1) := by decide +kernel
theorem dX11_from_71 : decode cX11_from 71 = .ok (.ifCond .eq 72, 3) := by decide +kernel
theorem dX11_from_74 : decode cX11_from 74 = .ok (.aload_n 0, 1) := by decide +kernel
theorem dX11_from_75 : decode cX11_from 75 = .ok (.getfield 17, 3) := by decide +kernel
theorem dX11_from_78 : decode cX11_from 78 = .ok (.iload 4, 2) := by decide +kernel
theorem dX11_from_80 : decode cX11_from 80 = .ok (.iaload, 1) := by decide +kernel
theorem dX11_from_81 : decode cX11_from 81 = .ok (.iconst 3, 1) := by decide +kernel
theorem dX11_from_82 : decode cX11_from 82 = .ok (.if_icmp .eq 61, 3) := by decide +kernel
theorem dX11_from_85 : decode cX11_from 85 = .ok (.aload_n 0, 1) := by decide +kernel
theorem dX11_from_86 : decode cX11_from 86 = .ok (.getfield 7, 3) := by decide +kernel
theorem dX11_from_89 : decode cX11_from 89 = .ok (.iload 4, 2) := by decide +kernel
theorem dX11_from_91 : decode cX11_from 91 = .ok (.baload, 1) := by decide +kernel
theorem dX11_from_92 : decode cX11_from 92 = .ok (.ifCond .ne 6, 3) := by decide +kernel
theorem dX11_from_95 : decode cX11_from 95 = .ok (.goto 48, 3) := by decide +kernel
theorem dX11_from_98 : decode cX11_from 98 = .ok (.iconst 0, 1) := by decide +kernel
theorem dX11_from_99 : decode cX11_from 99 = .ok (.istore 5, 2) := by decide +kernel
theorem dX11_from_101 : decode cX11_from 101 = .ok (.iload 5, 2) := by decide +kernel
theorem dX11_from_103 : decode cX11_from 103 = .ok (.aload_n 0, 1) := by decide +kernel
theorem dX11_from_104 : decode cX11_from 104 = .ok (.getfield 21, 3) := by decide +kernel
theorem dX11_from_107 : decode cX11_from 107 = .ok (.iload 4, 2) := by decide +kernel
theorem dX11_from_109 : decode cX11_from 109 = .ok (.iaload, 1) := by decide +kernel
theorem dX11_from_110 : decode cX11_from 110 = .ok (.if_icmp .ge 33, 3) := by decide +kernel
theorem dX11_from_113 : decode cX11_from 113 = .ok (.aload_n 0, 1) := by decide +kernel
theorem dX11_from_114 : decode cX11_from 114 = .ok (.getfield 138, 3) := by decide +kernel
theorem dX11_from_117 : decode cX11_from 117 = .ok (.bipush 8, 2) := by decide +kernel
theorem dX11_from_119 : decode cX11_from 119 = .ok (.iload 4, 2) := by decide +kernel
theorem dX11_from_121 : decode cX11_from 121 = .ok (.imul, 1) := by decide +kernel
theorem dX11_from_122 : decode cX11_from 122 = .ok (.iload 5, 2) := by decide +kernel
theorem dX11_from_124 : decode cX11_from 124 = .ok (.iadd, 1) := by decide +kernel
theorem dX11_from_125 : decode cX11_from 125 = .ok (.baload, 1) := by decide +kernel
theorem dX11_from_126 : decode cX11_from 126 = .ok (.ifCond .eq 11, 3) := by decide +kernel
theorem dX11_from_129 : decode cX11_from 129 = .ok (.aload_n 0, 1) := by decide +kernel
theorem dX11_from_130 : decode cX11_from 130 = .ok (.iload 4, 2) := by decide +kernel
theorem dX11_from_132 : decode cX11_from 132 = .ok (.iload 5, 2) := by decide +kernel
theorem dX11_from_134 : decode cX11_from 134 = .ok (.invokevirtual 336, 3) := by decide +kernel
theorem dX11_from_137 : decode cX11_from 137 = .ok (.iinc 5 1, 3) := by decide +kernel
theorem dX11_from_140 : decode cX11_from 140 = .ok (.goto (-39), 3) := by decide +kernel
theorem dX11_from_143 : decode cX11_from 143 = .ok (.iinc 4 (-1), 3) := by decide +kernel
theorem dX11_from_146 : decode cX11_from 146 = .ok (.goto (-91), 3) := by decide +kernel
theorem dX11_from_149 : decode cX11_from 149 = .ok (.aload_n 0, 1) := by decide +kernel
theorem dX11_from_150 : decode cX11_from 150 = .ok (.iconst 0, 1) := by decide +kernel
theorem dX11_from_151 : decode cX11_from 151 = .ok (.putfield 324, 3) := by decide +kernel
theorem dX11_from_154 : decode cX11_from 154 = .ok (.iconst 0, 1) := by decide +kernel
theorem dX11_from_155 : decode cX11_from 155 = .ok (.istore 4, 2) := by decide +kernel
theorem dX11_from_157 : decode cX11_from 157 = .ok (.iload 4, 2) := by decide +kernel
theorem dX11_from_159 : decode cX11_from 159 = .ok (.sipush 136, 3) := by decide +kernel
theorem dX11_from_162 : decode cX11_from 162 = .ok (.if_icmp .ge 43, 3) := by decide +kernel
theorem dX11_from_165 : decode cX11_from 165 = .ok (.aload_n 0, 1) := by decide +kernel
theorem dX11_from_166 : decode cX11_from 166 = .ok (.getfield 138, 3) := by decide +kernel
theorem dX11_from_169 : decode cX11_from 169 = .ok (.iload 4, 2) := by decide +kernel
theorem dX11_from_171 : decode cX11_from 171 = .ok (.baload, 1) := by decide +kernel
theorem dX11_from_172 : decode cX11_from 172 = .ok (.ifCond .eq 27, 3) := by decide +kernel
theorem dX11_from_175 : decode cX11_from 175 = .ok (.iload_n 3, 1) := by decide +kernel
theorem dX11_from_176 : decode cX11_from 176 = .ok (.iconst 2, 1) := by decide +kernel
theorem dX11_from_177 : decode cX11_from 177 = .ok (.if_icmp .lt 16, 3) := by decide +kernel
theorem dX11_from_180 : decode cX11_from 180 = .ok (.aload_n 0, 1) := by decide +kernel
theorem dX11_from_181 : decode cX11_from 181 = .ok (.getfield 17, 3) := by decide +kernel
theorem dX11_from_184 : decode cX11_from 184 = .ok (.iload 4, 2) := by decide +kernel
theorem dX11_from_186 : decode cX11_from 186 = .ok (.bipush 8, 2) := by decide +kernel
theorem dX11_from_188 : decode cX11_from 188 = .ok (.idiv, 1) := by decide +kernel
theorem dX11_from_189 : decode cX11_from 189 = .ok (.iaload, 1) := by decide +kernel
theorem dX11_from_190 : decode cX11_from 190 = .ok (.ifCond .ne 9, 3) := by decide +kernel
theorem dX11_from_193 : decode cX11_from 193 = .ok (.aload_n 0, 1) := by decide +kernel
theorem dX11_from_194 : decode cX11_from 194 = .ok (.iload 4, 2) := by decide +kernel
theorem dX11_from_196 : decode cX11_from 196 = .ok (.invokevirtual 339, 3) := by decide +kernel
theorem dX11_from_199 : decode cX11_from 199 = .ok (.iinc 4 1, 3) := by decide +kernel
theorem dX11_from_202 : decode cX11_from 202 = .ok (.goto (-45), 3) := by decide +kernel
theorem dX11_from_205 : decode cX11_from 205 = .ok (.aload_n 0, 1) := by decide +kernel
theorem dX11_from_206 : decode cX11_from 206 = .ok (.getfield 324, 3) := by decide +kernel
theorem dX11_from_209 : decode cX11_from 209 = .ok (.ireturn, 1) := by decide +kernel
theorem dX11_touches_0 : decode cX11_touches 0 = .ok (.aload_n 0, 1) := by decide +kernel
theorem dX11_touches_1 : decode cX11_touches 1 = .ok (.invokevirtual 333, 3) := by decide +kernel
theorem dX11_touches_4 : decode cX11_touches 4 = .ok (.aload_n 0, 1) := by decide +kernel
theorem dX11_touches_5 : decode cX11_touches 5 = .ok (.getfield 138, 3) := by decide +kernel
theorem dX11_touches_8 : decode cX11_touches 8 = .ok (.bipush 8, 2) := by decide +kernel
theorem dX11_touches_10 : decode cX11_touches 10 = .ok (.iload_n 1, 1) := by decide +kernel
theorem dX11_touches_11 : decode cX11_touches 11 = .ok (.imul, 1) := by decide +kernel
theorem dX11_touches_12 : decode cX11_touches 12 = .ok (.iload_n 2, 1) := by decide +kernel
theorem dX11_touches_13 : decode cX11_touches 13 = .ok (.iadd, 1) := by decide +kernel
theorem dX11_touches_14 : decode cX11_touches 14 = .ok (.iconst 1, 1) := by decide +kernel
theorem dX11_touches_15 : decode cX11_touches 15 = .ok (.bastore, 1) := by decide +kernel
theorem dX11_touches_16 : decode cX11_touches 16 = .ok (.iload_n 1, 1) := by decide +kernel
theorem dX11_touches_17 : decode cX11_touches 17 = .ok (.iconst 1, 1) := by decide +kernel
theorem dX11_touches_18 : decode cX11_touches 18 = .ok (.iadd, 1) := by decide +kernel
theorem dX11_touches_19 : decode cX11_touches 19 = .ok (.istore_n 3, 1) := by decide +kernel
theorem dX11_touches_20 : decode cX11_touches 20 = .ok (.iload_n 3, 1) := by decide +kernel
theorem dX11_touches_21 : decode cX11_touches 21 = .ok (.aload_n 0, 1) := by decide +kernel
theorem dX11_touches_22 : decode cX11_touches 22 = .ok (.getfield 159, 3) := by decide +kernel
theorem dX11_touches_25 : decode cX11_touches 25 = .ok (.if_icmp .ge 123, 3) := by decide +kernel
theorem dX11_touches_28 : decode cX11_touches 28 = .ok (.aload_n 0, 1) := by decide +kernel
theorem dX11_touches_29 : decode cX11_touches 29 = .ok (.getfield 7, 3) := by decide +kernel
theorem dX11_touches_32 : decode cX11_touches 32 = .ok (.iload_n 3, 1) := by decide +kernel
theorem dX11_touches_33 : decode cX11_touches 33 = .ok (.baload, 1) := by decide +kernel
theorem dX11_touches_34 : decode cX11_touches 34 = .ok (.ifCond .eq 108, 3) := by decide +kernel
theorem dX11_touches_37 : decode cX11_touches 37 = .ok (.aload_n 0, 1) := by decide +kernel
theorem dX11_touches_38 : decode cX11_touches 38 = .ok (.getfield 17, 3) := by decide +kernel
theorem dX11_touches_41 : decode cX11_touches 41 = .ok (.iload_n 3, 1) := by decide +kernel
theorem dX11_touches_42 : decode cX11_touches 42 = .ok (.iaload, 1) := by decide +kernel
theorem dX11_touches_43 : decode cX11_touches 43 = .ok (.ifCond .eq 99, 3) := by decide +kernel
theorem dX11_touches_46 : decode cX11_touches 46 = .ok (.aload_n 0, 1) := by decide +kernel
theorem dX11_touches_47 : decode cX11_touches 47 = .ok (.getfield 17, 3) := by decide +kernel
theorem dX11_touches_50 : decode cX11_touches 50 = .ok (.iload_n 3, 1) := by decide +kernel
theorem dX11_touches_51 : decode cX11_touches 51 = .ok (.iaload, 1) := by decide +kernel
theorem dX11_touches_52 : decode cX11_touches 52 = .ok (.iconst 3, 1) := by decide +kernel
theorem dX11_touches_53 : decode cX11_touches 53 = .ok (.if_icmp .ne 6, 3) := by decide +kernel
theorem dX11_touches_56 : decode cX11_touches 56 = .ok (.goto 86, 3) := by decide +kernel
theorem dX11_touches_59 : decode cX11_touches 59 = .ok (.aload_n 0, 1) := by decide +kernel
theorem dX11_touches_60 : decode cX11_touches 60 = .ok (.iload_n 3, 1) := by decide +kernel
theorem dX11_touches_61 : decode cX11_touches 61 = .ok (.invokevirtual 295, 3) := by decide +kernel
theorem dX11_touches_64 : decode cX11_touches 64 = .ok (.ifCond .eq 27, 3) := by decide +kernel
theorem dX11_touches_67 : decode cX11_touches 67 = .ok (.aload_n 0, 1) := by decide +kernel
theorem dX11_touches_68 : decode cX11_touches 68 = .ok (.iload_n 3, 1) := by decide +kernel
theorem dX11_touches_69 : decode cX11_touches 69 = .ok (.bipush 6, 2) := by decide +kernel
theorem dX11_touches_71 : decode cX11_touches 71 = .ok (.invokevirtual 342, 3) := by decide +kernel
theorem dX11_touches_74 : decode cX11_touches 74 = .ok (.ifCond .ne 13, 3) := by decide +kernel
theorem dX11_touches_77 : decode cX11_touches 77 = .ok (.aload_n 0, 1) := by decide +kernel
theorem dX11_touches_78 : decode cX11_touches 78 = .ok (.iload_n 3, 1) := by decide +kernel
theorem dX11_touches_79 : decode cX11_touches 79 = .ok (.bipush 7, 2) := by decide +kernel
theorem dX11_touches_81 : decode cX11_touches 81 = .ok (.invokevirtual 342, 3) := by decide +kernel
theorem dX11_touches_84 : decode cX11_touches 84 = .ok (.ifCond .eq 7, 3) := by decide +kernel
theorem dX11_touches_87 : decode cX11_touches 87 = .ok (.iconst 1, 1) := by decide +kernel
theorem dX11_touches_88 : decode cX11_touches 88 = .ok (.goto 4, 3) := by decide +kernel
theorem dX11_touches_91 : decode cX11_touches 91 = .ok (.iconst 0, 1) := by decide +kernel
theorem dX11_touches_92 : decode cX11_touches 92 = .ok (.istore 4, 2) := by decide +kernel
theorem dX11_touches_94 : decode cX11_touches 94 = .ok (.iconst 0, 1) := by decide +kernel
theorem dX11_touches_95 : decode cX11_touches 95 = .ok (.istore 5, 2) := by decide +kernel
theorem dX11_touches_97 : decode cX11_touches 97 = .ok (.iload 5, 2) := by decide +kernel
theorem dX11_touches_99 : decode cX11_touches 99 = .ok (.aload_n 0, 1) := by decide +kernel
theorem dX11_touches_100 : decode cX11_touches 100 = .ok (.getfield 21, 3) := by decide +kernel
theorem dX11_touches_103 : decode cX11_touches 103 = .ok (.iload_n 3, 1) := by decide +kernel
theorem dX11_touches_104 : decode cX11_touches 104 = .ok (.iaload, 1) := by decide +kernel
theorem dX11_touches_105 : decode cX11_touches 105 = .ok (.if_icmp .ge 37, 3) := by decide +kernel
theorem dX11_touches_108 : decode cX11_touches 108 = .ok (.iload 4, 2) := by decide +kernel
theorem dX11_touches_110 : decode cX11_touches 110 = .ok (.ifCond .ne 13, 3) := by decide +kernel
theorem dX11_touches_113 : decode cX11_touches 113 = .ok (.aload_n 0, 1) := by decide +kernel
theorem dX11_touches_114 : decode cX11_touches 114 = .ok (.iload_n 3, 1) := by decide +kernel
theorem dX11_touches_115 : decode cX11_touches 115 = .ok (.iload 5, 2) := by decide +kernel
theorem dX11_touches_117 : decode cX11_touches 117 = .ok (.invokevirtual 342, 3) := by decide +kernel
theorem dX11_touches_120 : decode cX11_touches 120 = .ok (.ifCond .eq 16, 3) := by decide +kernel
theorem dX11_touches_123 : decode cX11_touches 123 = .ok (.aload_n 0, 1) := by decide +kernel
theorem dX11_touches_124 : decode cX11_touches 124 = .ok (.getfield 138, 3) := by decide +kernel
theorem dX11_touches_127 : decode cX11_touches 127 = .ok (.bipush 8, 2) := by decide +kernel
theorem dX11_touches_129 : decode cX11_touches 129 = .ok (.iload_n 3, 1) := by decide +kernel
theorem dX11_touches_130 : decode cX11_touches 130 = .ok (.imul, 1) := by decide +kernel
theorem dX11_touches_131 : decode cX11_touches 131 = .ok (.iload 5, 2) := by decide +kernel
theorem dX11_touches_133 : decode cX11_touches 133 = .ok (.iadd, 1) := by decide +kernel
theorem dX11_touches_134 : decode cX11_touches 134 = .ok (.iconst 1, 1) := by decide +kernel
theorem dX11_touches_135 : decode cX11_touches 135 = .ok (.bastore, 1) := by decide +kernel
theorem dX11_touches_136 : decode cX11_touches 136 = .ok (.iinc 5 1, 3) := by decide +kernel
theorem dX11_touches_139 : decode cX11_touches 139 = .ok (.goto (-42), 3) := by decide +kernel
theorem dX11_touches_142 : decode cX11_touches 142 = .ok (.iinc 3 1, 3) := by decide +kernel
theorem dX11_touches_145 : decode cX11_touches 145 = .ok (.goto (-125), 3) := by decide +kernel
theorem dX11_touches_148 : decode cX11_touches 148 = .ok (.return_, 1) := by decide +kernel
theorem dX11_touch_0 : decode cX11_touch 0 = .ok (.aload_n 0, 1) := by decide +kernel
theorem dX11_touch_1 : decode cX11_touch 1 = .ok (.iload_n 1, 1) := by decide +kernel
theorem dX11_touch_2 : decode cX11_touch 2 = .ok (.iload_n 2, 1) := by decide +kernel
theorem dX11_touch_3 : decode cX11_touch 3 = .ok (.invokevirtual 320, 3) := by decide +kernel
theorem dX11_touch_6 : decode cX11_touch 6 = .ok (.ifCond .ne 5, 3) := by decide +kernel
theorem dX11_touch_9 : decode cX11_touch 9 = .ok (.iconst (-1), 1) := by decide +kernel
theorem dX11_touch_10 : decode cX11_touch 10 = .ok (.ireturn, 1) := by decide +kernel
theorem dX11_touch_11 : decode cX11_touch 11 = .ok (.aload_n 0, 1) := by decide +kernel
theorem dX11_touch_12 : decode cX11_touch 12 = .ok (.iload_n 1, 1) := by decide +kernel
theorem dX11_touch_13 : decode cX11_touch 13 = .ok (.iload_n 2, 1) := by decide +kernel
theorem dX11_touch_14 : decode cX11_touch 14 = .ok (.invokevirtual 345, 3) := by decide +kernel
theorem dX11_touch_17 : decode cX11_touch 17 = .ok (.aload_n 0, 1) := by decide +kernel
theorem dX11_touch_18 : decode cX11_touch 18 = .ok (.iconst 0, 1) := by decide +kernel
theorem dX11_touch_19 : decode cX11_touch 19 = .ok (.putfield 324, 3) := by decide +kernel
theorem dX11_touch_22 : decode cX11_touch 22 = .ok (.iconst 0, 1) := by decide +kernel
theorem dX11_touch_23 : decode cX11_touch 23 = .ok (.istore_n 3, 1) := by decide +kernel
theorem dX11_touch_24 : decode cX11_touch 24 = .ok (.iload_n 3, 1) := by decide +kernel
theorem dX11_touch_25 : decode cX11_touch 25 = .ok (.sipush 136, 3) := by decide +kernel
theorem dX11_touch_28 : decode cX11_touch 28 = .ok (.if_icmp .ge 33, 3) := by decide +kernel
theorem dX11_touch_31 : decode cX11_touch 31 = .ok (.aload_n 0, 1) := by decide +kernel
theorem dX11_touch_32 : decode cX11_touch 32 = .ok (.getfield 138, 3) := by decide +kernel
theorem dX11_touch_35 : decode cX11_touch 35 = .ok (.iload_n 3, 1) := by decide +kernel
theorem dX11_touch_36 : decode cX11_touch 36 = .ok (.baload, 1) := by decide +kernel
theorem dX11_touch_37 : decode cX11_touch 37 = .ok (.ifCond .eq 18, 3) := by decide +kernel
theorem dX11_touch_40 : decode cX11_touch 40 = .ok (.iload_n 3, 1) := by decide +kernel
theorem dX11_touch_41 : decode cX11_touch 41 = .ok (.bipush 8, 2) := by decide +kernel
theorem dX11_touch_43 : decode cX11_touch 43 = .ok (.iload_n 1, 1) := by decide +kernel
theorem dX11_touch_44 : decode cX11_touch 44 = .ok (.imul, 1) := by decide +kernel
theorem dX11_touch_45 : decode cX11_touch 45 = .ok (.iload_n 2, 1) := by decide +kernel
theorem dX11_touch_46 : decode cX11_touch 46 = .ok (.iadd, 1) := by decide +kernel
theorem dX11_touch_47 : decode cX11_touch 47 = .ok (.if_icmp .eq 8, 3) := by decide +kernel
theorem dX11_touch_50 : decode cX11_touch 50 = .ok (.aload_n 0, 1) := by decide +kernel
theorem dX11_touch_51 : decode cX11_touch 51 = .ok (.iload_n 3, 1) := by decide +kernel
theorem dX11_touch_52 : decode cX11_touch 52 = .ok (.invokevirtual 339, 3) := by decide +kernel
theorem dX11_touch_55 : decode cX11_touch 55 = .ok (.iinc 3 1, 3) := by decide +kernel
theorem dX11_touch_58 : decode cX11_touch 58 = .ok (.goto (-34), 3) := by decide +kernel
theorem dX11_touch_61 : decode cX11_touch 61 = .ok (.aload_n 0, 1) := by decide +kernel
theorem dX11_touch_62 : decode cX11_touch 62 = .ok (.getfield 324, 3) := by decide +kernel
theorem dX11_touch_65 : decode cX11_touch 65 = .ok (.ireturn, 1) := by decide +kernel
theorem dX11_asked_0 : decode cX11_asked 0 = .ok (.aload_n 0, 1) := by decide +kernel
theorem dX11_asked_1 : decode cX11_asked 1 = .ok (.iload_n 1, 1) := by decide +kernel
theorem dX11_asked_2 : decode cX11_asked 2 = .ok (.iload_n 2, 1) := by decide +kernel
theorem dX11_asked_3 : decode cX11_asked 3 = .ok (.invokevirtual 320, 3) := by decide +kernel
theorem dX11_asked_6 : decode cX11_asked 6 = .ok (.ifCond .ne 5, 3) := by decide +kernel
theorem dX11_asked_9 : decode cX11_asked 9 = .ok (.iconst (-1), 1) := by decide +kernel
theorem dX11_asked_10 : decode cX11_asked 10 = .ok (.ireturn, 1) := by decide +kernel
theorem dX11_asked_11 : decode cX11_asked 11 = .ok (.aload_n 0, 1) := by decide +kernel
theorem dX11_asked_12 : decode cX11_asked 12 = .ok (.iload_n 1, 1) := by decide +kernel
theorem dX11_asked_13 : decode cX11_asked 13 = .ok (.iload_n 2, 1) := by decide +kernel
theorem dX11_asked_14 : decode cX11_asked 14 = .ok (.invokevirtual 345, 3) := by decide +kernel
theorem dX11_asked_17 : decode cX11_asked 17 = .ok (.aload_n 0, 1) := by decide +kernel
theorem dX11_asked_18 : decode cX11_asked 18 = .ok (.iconst 0, 1) := by decide +kernel
theorem dX11_asked_19 : decode cX11_asked 19 = .ok (.putfield 324, 3) := by decide +kernel
theorem dX11_asked_22 : decode cX11_asked 22 = .ok (.iconst 0, 1) := by decide +kernel
theorem dX11_asked_23 : decode cX11_asked 23 = .ok (.istore_n 3, 1) := by decide +kernel
theorem dX11_asked_24 : decode cX11_asked 24 = .ok (.iload_n 3, 1) := by decide +kernel
theorem dX11_asked_25 : decode cX11_asked 25 = .ok (.aload_n 0, 1) := by decide +kernel
theorem dX11_asked_26 : decode cX11_asked 26 = .ok (.getfield 348, 3) := by decide +kernel
theorem dX11_asked_29 : decode cX11_asked 29 = .ok (.if_icmp .ge 85, 3) := by decide +kernel
theorem dX11_asked_32 : decode cX11_asked 32 = .ok (.iconst 0, 1) := by decide +kernel
theorem dX11_asked_33 : decode cX11_asked 33 = .ok (.istore 4, 2) := by decide +kernel
theorem dX11_asked_35 : decode cX11_asked 35 = .ok (.iconst 0, 1) := by decide +kernel
theorem dX11_asked_36 : decode cX11_asked 36 = .ok (.istore 5, 2) := by decide +kernel
theorem dX11_asked_38 : decode cX11_asked 38 = .ok (.iload 5, 2) := by decide +kernel
theorem dX11_asked_40 : decode cX11_asked 40 = .ok (.bipush 6, 2) := by decide +kernel
theorem dX11_asked_42 : decode cX11_asked 42 = .ok (.if_icmp .ge 56, 3) := by decide +kernel
theorem dX11_asked_45 : decode cX11_asked 45 = .ok (.iload 4, 2) := by decide +kernel
theorem dX11_asked_47 : decode cX11_asked 47 = .ok (.ifCond .ne 38, 3) := by decide +kernel
theorem dX11_asked_50 : decode cX11_asked 50 = .ok (.aload_n 0, 1) := by decide +kernel
theorem dX11_asked_51 : decode cX11_asked 51 = .ok (.getfield 150, 3) := by decide +kernel
theorem dX11_asked_54 : decode cX11_asked 54 = .ok (.iload_n 3, 1) := by decide +kernel
theorem dX11_asked_55 : decode cX11_asked 55 = .ok (.iaload, 1) := by decide +kernel
theorem dX11_asked_56 : decode cX11_asked 56 = .ok (.iload 5, 2) := by decide +kernel
theorem dX11_asked_58 : decode cX11_asked 58 = .ok (.ishr, 1) := by decide +kernel
theorem dX11_asked_59 : decode cX11_asked 59 = .ok (.iconst 1, 1) := by decide +kernel
theorem dX11_asked_60 : decode cX11_asked 60 = .ok (.iand, 1) := by decide +kernel
theorem dX11_asked_61 : decode cX11_asked 61 = .ok (.iconst 1, 1) := by decide +kernel
theorem dX11_asked_62 : decode cX11_asked 62 = .ok (.if_icmp .ne 27, 3) := by decide +kernel
theorem dX11_asked_65 : decode cX11_asked 65 = .ok (.aload_n 0, 1) := by decide +kernel
theorem dX11_asked_66 : decode cX11_asked 66 = .ok (.getfield 138, 3) := by decide +kernel
theorem dX11_asked_69 : decode cX11_asked 69 = .ok (.bipush 8, 2) := by decide +kernel
theorem dX11_asked_71 : decode cX11_asked 71 = .ok (.aload_n 0, 1) := by decide +kernel
theorem dX11_asked_72 : decode cX11_asked 72 = .ok (.getfield 147, 3) := by decide +kernel
theorem dX11_asked_75 : decode cX11_asked 75 = .ok (.iload_n 3, 1) := by decide +kernel
theorem dX11_asked_76 : decode cX11_asked 76 = .ok (.iaload, 1) := by decide +kernel
theorem dX11_asked_77 : decode cX11_asked 77 = .ok (.imul, 1) := by decide +kernel
theorem dX11_asked_78 : decode cX11_asked 78 = .ok (.iload 5, 2) := by decide +kernel
theorem dX11_asked_80 : decode cX11_asked 80 = .ok (.iadd, 1) := by decide +kernel
theorem dX11_asked_81 : decode cX11_asked 81 = .ok (.baload, 1) := by decide +kernel
theorem dX11_asked_82 : decode cX11_asked 82 = .ok (.ifCond .eq 7, 3) := by decide +kernel
theorem dX11_asked_85 : decode cX11_asked 85 = .ok (.iconst 1, 1) := by decide +kernel
theorem dX11_asked_86 : decode cX11_asked 86 = .ok (.goto 4, 3) := by decide +kernel
theorem dX11_asked_89 : decode cX11_asked 89 = .ok (.iconst 0, 1) := by decide +kernel
theorem dX11_asked_90 : decode cX11_asked 90 = .ok (.istore 4, 2) := by decide +kernel
theorem dX11_asked_92 : decode cX11_asked 92 = .ok (.iinc 5 1, 3) := by decide +kernel
theorem dX11_asked_95 : decode cX11_asked 95 = .ok (.goto (-57), 3) := by decide +kernel
theorem dX11_asked_98 : decode cX11_asked 98 = .ok (.iload 4, 2) := by decide +kernel
theorem dX11_asked_100 : decode cX11_asked 100 = .ok (.ifCond .eq 8, 3) := by decide +kernel
theorem dX11_asked_103 : decode cX11_asked 103 = .ok (.aload_n 0, 1) := by decide +kernel
theorem dX11_asked_104 : decode cX11_asked 104 = .ok (.iload_n 3, 1) := by decide +kernel
theorem dX11_asked_105 : decode cX11_asked 105 = .ok (.invokevirtual 339, 3) := by decide +kernel
theorem dX11_asked_108 : decode cX11_asked 108 = .ok (.iinc 3 1, 3) := by decide +kernel
theorem dX11_asked_111 : decode cX11_asked 111 = .ok (.goto (-87), 3) := by decide +kernel
theorem dX11_asked_114 : decode cX11_asked 114 = .ok (.aload_n 0, 1) := by decide +kernel
theorem dX11_asked_115 : decode cX11_asked 115 = .ok (.getfield 324, 3) := by decide +kernel
theorem dX11_asked_118 : decode cX11_asked 118 = .ok (.ireturn, 1) := by decide +kernel
theorem dX11_ask_0 : decode cX11_ask 0 = .ok (.iload_n 1, 1) := by decide +kernel
theorem dX11_ask_1 : decode cX11_ask 1 = .ok (.ifCond .lt 43, 3) := by decide +kernel
theorem dX11_ask_4 : decode cX11_ask 4 = .ok (.iload_n 1, 1) := by decide +kernel
theorem dX11_ask_5 : decode cX11_ask 5 = .ok (.bipush 9, 2) := by decide +kernel
theorem dX11_ask_7 : decode cX11_ask 7 = .ok (.if_icmp .gt 37, 3) := by decide +kernel
theorem dX11_ask_10 : decode cX11_ask 10 = .ok (.aload_n 0, 1) := by decide +kernel
theorem dX11_ask_11 : decode cX11_ask 11 = .ok (.iload_n 2, 1) := by decide +kernel
theorem dX11_ask_12 : decode cX11_ask 12 = .ok (.invokevirtual 162, 3) := by decide +kernel
theorem dX11_ask_15 : decode cX11_ask 15 = .ok (.ifCond .eq 29, 3) := by decide +kernel
theorem dX11_ask_18 : decode cX11_ask 18 = .ok (.iload_n 3, 1) := by decide +kernel
theorem dX11_ask_19 : decode cX11_ask 19 = .ok (.iconst 1, 1) := by decide +kernel
theorem dX11_ask_20 : decode cX11_ask 20 = .ok (.if_icmp .lt 24, 3) := by decide +kernel
theorem dX11_ask_23 : decode cX11_ask 23 = .ok (.iload_n 3, 1) := by decide +kernel
theorem dX11_ask_24 : decode cX11_ask 24 = .ok (.iconst 1, 1) := by decide +kernel
theorem dX11_ask_25 : decode cX11_ask 25 = .ok (.aload_n 0, 1) := by decide +kernel
theorem dX11_ask_26 : decode cX11_ask 26 = .ok (.getfield 21, 3) := by decide +kernel
theorem dX11_ask_29 : decode cX11_ask 29 = .ok (.iload_n 2, 1) := by decide +kernel
theorem dX11_ask_30 : decode cX11_ask 30 = .ok (.iaload, 1) := by decide +kernel
theorem dX11_ask_31 : decode cX11_ask 31 = .ok (.ishl, 1) := by decide +kernel
theorem dX11_ask_32 : decode cX11_ask 32 = .ok (.if_icmp .ge 12, 3) := by decide +kernel
theorem dX11_ask_35 : decode cX11_ask 35 = .ok (.aload_n 0, 1) := by decide +kernel
theorem dX11_ask_36 : decode cX11_ask 36 = .ok (.getfield 348, 3) := by decide +kernel
theorem dX11_ask_39 : decode cX11_ask 39 = .ok (.bipush 40, 2) := by decide +kernel
theorem dX11_ask_41 : decode cX11_ask 41 = .ok (.if_icmp .ne 5, 3) := by decide +kernel
theorem dX11_ask_44 : decode cX11_ask 44 = .ok (.iconst (-1), 1) := by decide +kernel
theorem dX11_ask_45 : decode cX11_ask 45 = .ok (.ireturn, 1) := by decide +kernel
theorem dX11_ask_46 : decode cX11_ask 46 = .ok (.aload_n 0, 1) := by decide +kernel
theorem dX11_ask_47 : decode cX11_ask 47 = .ok (.getfield 144, 3) := by decide +kernel
theorem dX11_ask_50 : decode cX11_ask 50 = .ok (.aload_n 0, 1) := by decide +kernel
theorem dX11_ask_51 : decode cX11_ask 51 = .ok (.getfield 348, 3) := by decide +kernel
theorem dX11_ask_54 : decode cX11_ask 54 = .ok (.iload_n 1, 1) := by decide +kernel
theorem dX11_ask_55 : decode cX11_ask 55 = .ok (.iastore, 1) := by decide +kernel
theorem dX11_ask_56 : decode cX11_ask 56 = .ok (.aload_n 0, 1) := by decide +kernel
theorem dX11_ask_57 : decode cX11_ask 57 = .ok (.getfield 147, 3) := by decide +kernel
theorem dX11_ask_60 : decode cX11_ask 60 = .ok (.aload_n 0, 1) := by decide +kernel
theorem dX11_ask_61 : decode cX11_ask 61 = .ok (.getfield 348, 3) := by decide +kernel
theorem dX11_ask_64 : decode cX11_ask 64 = .ok (.iload_n 2, 1) := by decide +kernel
theorem dX11_ask_65 : decode cX11_ask 65 = .ok (.iastore, 1) := by decide +kernel
theorem dX11_ask_66 : decode cX11_ask 66 = .ok (.aload_n 0, 1) := by decide +kernel
theorem dX11_ask_67 : decode cX11_ask 67 = .ok (.getfield 150, 3) := by decide +kernel
theorem dX11_ask_70 : decode cX11_ask 70 = .ok (.aload_n 0, 1) := by decide +kernel
theorem dX11_ask_71 : decode cX11_ask 71 = .ok (.getfield 348, 3) := by decide +kernel
theorem dX11_ask_74 : decode cX11_ask 74 = .ok (.iload_n 3, 1) := by decide +kernel
theorem dX11_ask_75 : decode cX11_ask 75 = .ok (.iastore, 1) := by decide +kernel
theorem dX11_ask_76 : decode cX11_ask 76 = .ok (.aload_n 0, 1) := by decide +kernel
theorem dX11_ask_77 : decode cX11_ask 77 = .ok (.getfield 153, 3) := by decide +kernel
theorem dX11_ask_80 : decode cX11_ask 80 = .ok (.aload_n 0, 1) := by decide +kernel
theorem dX11_ask_81 : decode cX11_ask 81 = .ok (.getfield 348, 3) := by decide +kernel
theorem dX11_ask_84 : decode cX11_ask 84 = .ok (.aload_n 0, 1) := by decide +kernel
theorem dX11_ask_85 : decode cX11_ask 85 = .ok (.getfield 351, 3) := by decide +kernel
theorem dX11_ask_88 : decode cX11_ask 88 = .ok (.iastore, 1) := by decide +kernel
theorem dX11_ask_89 : decode cX11_ask 89 = .ok (.aload_n 0, 1) := by decide +kernel
theorem dX11_ask_90 : decode cX11_ask 90 = .ok (.dup, 1) := by decide +kernel
theorem dX11_ask_91 : decode cX11_ask 91 = .ok (.getfield 348, 3) := by decide +kernel
theorem dX11_ask_94 : decode cX11_ask 94 = .ok (.iconst 1, 1) := by decide +kernel
theorem dX11_ask_95 : decode cX11_ask 95 = .ok (.iadd, 1) := by decide +kernel
theorem dX11_ask_96 : decode cX11_ask 96 = .ok (.putfield 348, 3) := by decide +kernel
theorem dX11_ask_99 : decode cX11_ask 99 = .ok (.aload_n 0, 1) := by decide +kernel
theorem dX11_ask_100 : decode cX11_ask 100 = .ok (.getfield 348, 3) := by decide +kernel
theorem dX11_ask_103 : decode cX11_ask 103 = .ok (.iconst 1, 1) := by decide +kernel
theorem dX11_ask_104 : decode cX11_ask 104 = .ok (.isub, 1) := by decide +kernel
theorem dX11_ask_105 : decode cX11_ask 105 = .ok (.ireturn, 1) := by decide +kernel
theorem dX11_retype_0 : decode cX11_retype 0 = .ok (.aload_n 0, 1) := by decide +kernel
theorem dX11_retype_1 : decode cX11_retype 1 = .ok (.iload_n 1, 1) := by decide +kernel
theorem dX11_retype_2 : decode cX11_retype 2 = .ok (.iload_n 2, 1) := by decide +kernel
theorem dX11_retype_3 : decode cX11_retype 3 = .ok (.invokevirtual 320, 3) := by decide +kernel
theorem dX11_retype_6 : decode cX11_retype 6 = .ok (.ifCond .eq 30, 3) := by decide +kernel
theorem dX11_retype_9 : decode cX11_retype 9 = .ok (.aload_n 0, 1) := by decide +kernel
theorem dX11_retype_10 : decode cX11_retype 10 = .ok (.getfield 17, 3) := by decide +kernel
theorem dX11_retype_13 : decode cX11_retype 13 = .ok (.iload_n 1, 1) := by decide +kernel
theorem dX11_retype_14 : decode cX11_retype 14 = .ok (.iaload, 1) := by decide +kernel
theorem dX11_retype_15 : decode cX11_retype 15 = .ok (.ifCond .ne 21, 3) := by decide +kernel
theorem dX11_retype_18 : decode cX11_retype 18 = .ok (.iload_n 3, 1) := by decide +kernel
theorem dX11_retype_19 : decode cX11_retype 19 = .ok (.bipush 110, 2) := by decide +kernel
theorem dX11_retype_21 : decode cX11_retype 21 = .ok (.if_icmp .eq 17, 3) := by decide +kernel
theorem dX11_retype_24 : decode cX11_retype 24 = .ok (.iload_n 3, 1) := by decide +kernel
theorem dX11_retype_25 : decode cX11_retype 25 = .ok (.bipush 116, 2) := by decide +kernel
theorem dX11_retype_27 : decode cX11_retype 27 = .ok (.if_icmp .eq 11, 3) := by decide +kernel
theorem dX11_retype_30 : decode cX11_retype 30 = .ok (.iload_n 3, 1) := by decide +kernel
theorem dX11_retype_31 : decode cX11_retype 31 = .ok (.bipush 100, 2) := by decide +kernel
theorem dX11_retype_33 : decode cX11_retype 33 = .ok (.if_icmp .eq 5, 3) := by decide +kernel
theorem dX11_retype_36 : decode cX11_retype 36 = .ok (.iconst (-1), 1) := by decide +kernel
theorem dX11_retype_37 : decode cX11_retype 37 = .ok (.ireturn, 1) := by decide +kernel
theorem dX11_retype_38 : decode cX11_retype 38 = .ok (.iconst 0, 1) := by decide +kernel
theorem dX11_retype_39 : decode cX11_retype 39 = .ok (.istore 4, 2) := by decide +kernel
theorem dX11_retype_41 : decode cX11_retype 41 = .ok (.iload 4, 2) := by decide +kernel
theorem dX11_retype_43 : decode cX11_retype 43 = .ok (.sipush 136, 3) := by decide +kernel
theorem dX11_retype_46 : decode cX11_retype 46 = .ok (.if_icmp .ge 23, 3) := by decide +kernel
theorem dX11_retype_49 : decode cX11_retype 49 = .ok (.aload_n 0, 1) := by decide +kernel
theorem dX11_retype_50 : decode cX11_retype 50 = .ok (.getfield 129, 3) := by decide +kernel
theorem dX11_retype_53 : decode cX11_retype 53 = .ok (.iload 4, 2) := by decide +kernel
theorem dX11_retype_55 : decode cX11_retype 55 = .ok (.aload_n 0, 1) := by decide +kernel
theorem dX11_retype_56 : decode cX11_retype 56 = .ok (.getfield 27, 3) := by decide +kernel
theorem dX11_retype_59 : decode cX11_retype 59 = .ok (.iload 4, 2) := by decide +kernel
theorem dX11_retype_61 : decode cX11_retype 61 = .ok (.iaload, 1) := by decide +kernel
theorem dX11_retype_62 : decode cX11_retype 62 = .ok (.iastore, 1) := by decide +kernel
theorem dX11_retype_63 : decode cX11_retype 63 = .ok (.iinc 4 1, 3) := by decide +kernel
theorem dX11_retype_66 : decode cX11_retype 66 = .ok (.goto (-25), 3) := by decide +kernel
theorem dX11_retype_69 : decode cX11_retype 69 = .ok (.aload_n 0, 1) := by decide +kernel
theorem dX11_retype_70 : decode cX11_retype 70 = .ok (.getfield 129, 3) := by decide +kernel
theorem dX11_retype_73 : decode cX11_retype 73 = .ok (.bipush 8, 2) := by decide +kernel
theorem dX11_retype_75 : decode cX11_retype 75 = .ok (.iload_n 1, 1) := by decide +kernel
theorem dX11_retype_76 : decode cX11_retype 76 = .ok (.imul, 1) := by decide +kernel
theorem dX11_retype_77 : decode cX11_retype 77 = .ok (.iload_n 2, 1) := by decide +kernel
theorem dX11_retype_78 : decode cX11_retype 78 = .ok (.iadd, 1) := by decide +kernel
theorem dX11_retype_79 : decode cX11_retype 79 = .ok (.iload_n 3, 1) := by decide +kernel
theorem dX11_retype_80 : decode cX11_retype 80 = .ok (.iastore, 1) := by decide +kernel
theorem dX11_retype_81 : decode cX11_retype 81 = .ok (.aload_n 0, 1) := by decide +kernel
theorem dX11_retype_82 : decode cX11_retype 82 = .ok (.getfield 324, 3) := by decide +kernel
theorem dX11_retype_85 : decode cX11_retype 85 = .ok (.istore 4, 2) := by decide +kernel
theorem dX11_retype_87 : decode cX11_retype 87 = .ok (.aload_n 0, 1) := by decide +kernel
theorem dX11_retype_88 : decode cX11_retype 88 = .ok (.iconst 0, 1) := by decide +kernel
theorem dX11_retype_89 : decode cX11_retype 89 = .ok (.putfield 324, 3) := by decide +kernel
theorem dX11_retype_92 : decode cX11_retype 92 = .ok (.iconst 0, 1) := by decide +kernel
theorem dX11_retype_93 : decode cX11_retype 93 = .ok (.istore 5, 2) := by decide +kernel
theorem dX11_retype_95 : decode cX11_retype 95 = .ok (.iconst 0, 1) := by decide +kernel
theorem dX11_retype_96 : decode cX11_retype 96 = .ok (.istore 6, 2) := by decide +kernel
theorem dX11_retype_98 : decode cX11_retype 98 = .ok (.iload 6, 2) := by decide +kernel
theorem dX11_retype_100 : decode cX11_retype 100 = .ok (.aload_n 0, 1) := by decide +kernel
theorem dX11_retype_101 : decode cX11_retype 101 = .ok (.getfield 159, 3) := by decide +kernel
theorem dX11_retype_104 : decode cX11_retype 104 = .ok (.if_icmp .ge 211, 3) := by decide +kernel
theorem dX11_retype_107 : decode cX11_retype 107 = .ok (.aload_n 0, 1) := by decide +kernel
theorem dX11_retype_108 : decode cX11_retype 108 = .ok (.getfield 7, 3) := by decide +kernel
theorem dX11_retype_111 : decode cX11_retype 111 = .ok (.iload 6, 2) := by decide +kernel
theorem dX11_retype_113 : decode cX11_retype 113 = .ok (.baload, 1) := by decide +kernel
theorem dX11_retype_114 : decode cX11_retype 114 = .ok (.ifCond .eq 195, 3) := by decide +kernel
theorem dX11_retype_117 : decode cX11_retype 117 = .ok (.aload_n 0, 1) := by decide +kernel
theorem dX11_retype_118 : decode cX11_retype 118 = .ok (.getfield 17, 3) := by decide +kernel
theorem dX11_retype_121 : decode cX11_retype 121 = .ok (.iload 6, 2) := by decide +kernel
theorem dX11_retype_123 : decode cX11_retype 123 = .ok (.iaload, 1) := by decide +kernel
theorem dX11_retype_124 : decode cX11_retype 124 = .ok (.ifCond .eq 185, 3) := by decide +kernel
theorem dX11_retype_127 : decode cX11_retype 127 = .ok (.aload_n 0, 1) := by decide +kernel
theorem dX11_retype_128 : decode cX11_retype 128 = .ok (.getfield 17, 3) := by decide +kernel
theorem dX11_retype_131 : decode cX11_retype 131 = .ok (.iload 6, 2) := by decide +kernel
theorem dX11_retype_133 : decode cX11_retype 133 = .ok (.iaload, 1) := by decide +kernel
theorem dX11_retype_134 : decode cX11_retype 134 = .ok (.iconst 3, 1) := by decide +kernel
theorem dX11_retype_135 : decode cX11_retype 135 = .ok (.if_icmp .ne 6, 3) := by decide +kernel
theorem dX11_retype_138 : decode cX11_retype 138 = .ok (.goto 171, 3) := by decide +kernel
theorem dX11_retype_141 : decode cX11_retype 141 = .ok (.iconst 0, 1) := by decide +kernel
theorem dX11_retype_142 : decode cX11_retype 142 = .ok (.istore 7, 2) := by decide +kernel
theorem dX11_retype_144 : decode cX11_retype 144 = .ok (.iload 7, 2) := by decide +kernel
theorem dX11_retype_146 : decode cX11_retype 146 = .ok (.aload_n 0, 1) := by decide +kernel
theorem dX11_retype_147 : decode cX11_retype 147 = .ok (.getfield 21, 3) := by decide +kernel
theorem dX11_retype_150 : decode cX11_retype 150 = .ok (.iload 6, 2) := by decide +kernel
theorem dX11_retype_152 : decode cX11_retype 152 = .ok (.iaload, 1) := by decide +kernel
theorem dX11_retype_153 : decode cX11_retype 153 = .ok (.if_icmp .ge 93, 3) := by decide +kernel
theorem dX11_retype_156 : decode cX11_retype 156 = .ok (.aload_n 0, 1) := by decide +kernel
theorem dX11_retype_157 : decode cX11_retype 157 = .ok (.iconst 0, 1) := by decide +kernel
theorem dX11_retype_158 : decode cX11_retype 158 = .ok (.putfield 255, 3) := by decide +kernel
theorem dX11_retype_161 : decode cX11_retype 161 = .ok (.aload_n 0, 1) := by decide +kernel
theorem dX11_retype_162 : decode cX11_retype 162 = .ok (.iload 6, 2) := by decide +kernel
theorem dX11_retype_164 : decode cX11_retype 164 = .ok (.iload 7, 2) := by decide +kernel
theorem dX11_retype_166 : decode cX11_retype 166 = .ok (.invokevirtual 292, 3) := by decide +kernel
theorem dX11_retype_169 : decode cX11_retype 169 = .ok (.istore 8, 2) := by decide +kernel
theorem dX11_retype_171 : decode cX11_retype 171 = .ok (.aload_n 0, 1) := by decide +kernel
theorem dX11_retype_172 : decode cX11_retype 172 = .ok (.getfield 255, 3) := by decide +kernel
theorem dX11_retype_175 : decode cX11_retype 175 = .ok (.ifCond .le 18, 3) := by decide +kernel
theorem dX11_retype_178 : decode cX11_retype 178 = .ok (.aload_n 0, 1) := by decide +kernel
theorem dX11_retype_179 : decode cX11_retype 179 = .ok (.bipush 8, 2) := by decide +kernel
theorem dX11_retype_181 : decode cX11_retype 181 = .ok (.iload 6, 2) := by decide +kernel
theorem dX11_retype_183 : decode cX11_retype 183 = .ok (.imul, 1) := by decide +kernel
theorem dX11_retype_184 : decode cX11_retype 184 = .ok (.iload 7, 2) := by decide +kernel
theorem dX11_retype_186 : decode cX11_retype 186 = .ok (.iadd, 1) := by decide +kernel
theorem dX11_retype_187 : decode cX11_retype 187 = .ok (.invokevirtual 354, 3) := by decide +kernel
theorem dX11_retype_190 : decode cX11_retype 190 = .ok (.goto 18, 3) := by decide +kernel
theorem dX11_retype_193 : decode cX11_retype 193 = .ok (.aload_n 0, 1) := by decide +kernel
theorem dX11_retype_194 : decode cX11_retype 194 = .ok (.getfield 129, 3) := by decide +kernel
theorem dX11_retype_197 : decode cX11_retype 197 = .ok (.bipush 8, 2) := by decide +kernel
theorem dX11_retype_199 : decode cX11_retype 199 = .ok (.iload 6, 2) := by decide +kernel
theorem dX11_retype_201 : decode cX11_retype 201 = .ok (.imul, 1) := by decide +kernel
theorem dX11_retype_202 : decode cX11_retype 202 = .ok (.iload 7, 2) := by decide +kernel
theorem dX11_retype_204 : decode cX11_retype 204 = .ok (.iadd, 1) := by decide +kernel
theorem dX11_retype_205 : decode cX11_retype 205 = .ok (.iload 8, 2) := by decide +kernel
theorem dX11_retype_207 : decode cX11_retype 207 = .ok (.iastore, 1) := by decide +kernel
theorem dX11_retype_208 : decode cX11_retype 208 = .ok (.aload_n 0, 1) := by decide +kernel
theorem dX11_retype_209 : decode cX11_retype 209 = .ok (.getfield 129, 3) := by decide +kernel
theorem dX11_retype_212 : decode cX11_retype 212 = .ok (.bipush 8, 2) := by decide +kernel
theorem dX11_retype_214 : decode cX11_retype 214 = .ok (.iload 6, 2) := by decide +kernel
theorem dX11_retype_216 : decode cX11_retype 216 = .ok (.imul, 1) := by decide +kernel
theorem dX11_retype_217 : decode cX11_retype 217 = .ok (.iload 7, 2) := by decide +kernel
theorem dX11_retype_219 : decode cX11_retype 219 = .ok (.iadd, 1) := by decide +kernel
theorem dX11_retype_220 : decode cX11_retype 220 = .ok (.iaload, 1) := by decide +kernel
theorem dX11_retype_221 : decode cX11_retype 221 = .ok (.aload_n 0, 1) := by decide +kernel
theorem dX11_retype_222 : decode cX11_retype 222 = .ok (.getfield 27, 3) := by decide +kernel
theorem dX11_retype_225 : decode cX11_retype 225 = .ok (.bipush 8, 2) := by decide +kernel
theorem dX11_retype_227 : decode cX11_retype 227 = .ok (.iload 6, 2) := by decide +kernel
theorem dX11_retype_229 : decode cX11_retype 229 = .ok (.imul, 1) := by decide +kernel
theorem dX11_retype_230 : decode cX11_retype 230 = .ok (.iload 7, 2) := by decide +kernel
theorem dX11_retype_232 : decode cX11_retype 232 = .ok (.iadd, 1) := by decide +kernel
theorem dX11_retype_233 : decode cX11_retype 233 = .ok (.iaload, 1) := by decide +kernel
theorem dX11_retype_234 : decode cX11_retype 234 = .ok (.if_icmp .eq 6, 3) := by decide +kernel
theorem dX11_retype_237 : decode cX11_retype 237 = .ok (.iinc 5 1, 3) := by decide +kernel
theorem dX11_retype_240 : decode cX11_retype 240 = .ok (.iinc 7 1, 3) := by decide +kernel
theorem dX11_retype_243 : decode cX11_retype 243 = .ok (.goto (-99), 3) := by decide +kernel
theorem dX11_retype_246 : decode cX11_retype 246 = .ok (.aload_n 0, 1) := by decide +kernel
theorem dX11_retype_247 : decode cX11_retype 247 = .ok (.iload 6, 2) := by decide +kernel
theorem dX11_retype_249 : decode cX11_retype 249 = .ok (.invokevirtual 295, 3) := by decide +kernel
theorem dX11_retype_252 : decode cX11_retype 252 = .ok (.ifCond .ne 6, 3) := by decide +kernel
theorem dX11_retype_255 : decode cX11_retype 255 = .ok (.goto 54, 3) := by decide +kernel
theorem dX11_retype_258 : decode cX11_retype 258 = .ok (.aload_n 0, 1) := by decide +kernel
theorem dX11_retype_259 : decode cX11_retype 259 = .ok (.iconst 0, 1) := by decide +kernel
theorem dX11_retype_260 : decode cX11_retype 260 = .ok (.putfield 255, 3) := by decide +kernel
theorem dX11_retype_263 : decode cX11_retype 263 = .ok (.aload_n 0, 1) := by decide +kernel
theorem dX11_retype_264 : decode cX11_retype 264 = .ok (.iload 6, 2) := by decide +kernel
theorem dX11_retype_266 : decode cX11_retype 266 = .ok (.bipush 6, 2) := by decide +kernel
theorem dX11_retype_268 : decode cX11_retype 268 = .ok (.invokevirtual 292, 3) := by decide +kernel
theorem dX11_retype_271 : decode cX11_retype 271 = .ok (.istore 7, 2) := by decide +kernel
theorem dX11_retype_273 : decode cX11_retype 273 = .ok (.aload_n 0, 1) := by decide +kernel
theorem dX11_retype_274 : decode cX11_retype 274 = .ok (.iload 6, 2) := by decide +kernel
theorem dX11_retype_276 : decode cX11_retype 276 = .ok (.bipush 7, 2) := by decide +kernel
theorem dX11_retype_278 : decode cX11_retype 278 = .ok (.invokevirtual 292, 3) := by decide +kernel
theorem dX11_retype_281 : decode cX11_retype 281 = .ok (.istore 8, 2) := by decide +kernel
theorem dX11_retype_283 : decode cX11_retype 283 = .ok (.aload_n 0, 1) := by decide +kernel
theorem dX11_retype_284 : decode cX11_retype 284 = .ok (.getfield 255, 3) := by decide +kernel
theorem dX11_retype_287 : decode cX11_retype 287 = .ok (.ifCond .gt 10, 3) := by decide +kernel
theorem dX11_retype_290 : decode cX11_retype 290 = .ok (.iload 7, 2) := by decide +kernel
theorem dX11_retype_292 : decode cX11_retype 292 = .ok (.iload 8, 2) := by decide +kernel
theorem dX11_retype_294 : decode cX11_retype 294 = .ok (.if_icmp .eq 15, 3) := by decide +kernel
theorem dX11_retype_297 : decode cX11_retype 297 = .ok (.aload_n 0, 1) := by decide +kernel
theorem dX11_retype_298 : decode cX11_retype 298 = .ok (.bipush 8, 2) := by decide +kernel
theorem dX11_retype_300 : decode cX11_retype 300 = .ok (.iload 6, 2) := by decide +kernel
theorem dX11_retype_302 : decode cX11_retype 302 = .ok (.imul, 1) := by decide +kernel
theorem dX11_retype_303 : decode cX11_retype 303 = .ok (.bipush 6, 2) := by decide +kernel
theorem dX11_retype_305 : decode cX11_retype 305 = .ok (.iadd, 1) := by decide +kernel
theorem dX11_retype_306 : decode cX11_retype 306 = .ok (.invokevirtual 354, 3) := by decide +kernel
theorem dX11_retype_309 : decode cX11_retype 309 = .ok (.iinc 6 1, 3) := by decide +kernel
theorem dX11_retype_312 : decode cX11_retype 312 = .ok (.goto (-214), 3) := by decide +kernel
theorem dX11_retype_315 : decode cX11_retype 315 = .ok (.aload_n 0, 1) := by decide +kernel
theorem dX11_retype_316 : decode cX11_retype 316 = .ok (.getfield 357, 3) := by decide +kernel
theorem dX11_retype_319 : decode cX11_retype 319 = .ok (.ifCond .le 51, 3) := by decide +kernel
theorem dX11_retype_322 : decode cX11_retype 322 = .ok (.aload_n 0, 1) := by decide +kernel
theorem dX11_retype_323 : decode cX11_retype 323 = .ok (.aload_n 0, 1) := by decide +kernel
theorem dX11_retype_324 : decode cX11_retype 324 = .ok (.getfield 357, 3) := by decide +kernel
theorem dX11_retype_327 : decode cX11_retype 327 = .ok (.putfield 324, 3) := by decide +kernel
theorem dX11_retype_330 : decode cX11_retype 330 = .ok (.iconst 0, 1) := by decide +kernel
theorem dX11_retype_331 : decode cX11_retype 331 = .ok (.istore 6, 2) := by decide +kernel
theorem dX11_retype_333 : decode cX11_retype 333 = .ok (.iload 6, 2) := by decide +kernel
theorem dX11_retype_335 : decode cX11_retype 335 = .ok (.aload_n 0, 1) := by decide +kernel
theorem dX11_retype_336 : decode cX11_retype 336 = .ok (.getfield 357, 3) := by decide +kernel
theorem dX11_retype_339 : decode cX11_retype 339 = .ok (.if_icmp .ge 23, 3) := by decide +kernel
theorem dX11_retype_342 : decode cX11_retype 342 = .ok (.aload_n 0, 1) := by decide +kernel
theorem dX11_retype_343 : decode cX11_retype 343 = .ok (.getfield 141, 3) := by decide +kernel
theorem dX11_retype_346 : decode cX11_retype 346 = .ok (.iload 6, 2) := by decide +kernel
theorem dX11_retype_348 : decode cX11_retype 348 = .ok (.aload_n 0, 1) := by decide +kernel
theorem dX11_retype_349 : decode cX11_retype 349 = .ok (.getfield 156, 3) := by decide +kernel
theorem dX11_retype_352 : decode cX11_retype 352 = .ok (.iload 6, 2) := by decide +kernel
theorem dX11_retype_354 : decode cX11_retype 354 = .ok (.iaload, 1) := by decide +kernel
theorem dX11_retype_355 : decode cX11_retype 355 = .ok (.iastore, 1) := by decide +kernel
theorem dX11_retype_356 : decode cX11_retype 356 = .ok (.iinc 6 1, 3) := by decide +kernel
theorem dX11_retype_359 : decode cX11_retype 359 = .ok (.goto (-26), 3) := by decide +kernel
theorem dX11_retype_362 : decode cX11_retype 362 = .ok (.aload_n 0, 1) := by decide +kernel
theorem dX11_retype_363 : decode cX11_retype 363 = .ok (.iconst 0, 1) := by decide +kernel
theorem dX11_retype_364 : decode cX11_retype 364 = .ok (.putfield 357, 3) := by decide +kernel
theorem dX11_retype_367 : decode cX11_retype 367 = .ok (.bipush (-2), 2) := by decide +kernel
theorem dX11_retype_369 : decode cX11_retype 369 = .ok (.ireturn, 1) := by decide +kernel
theorem dX11_retype_370 : decode cX11_retype 370 = .ok (.aload_n 0, 1) := by decide +kernel
theorem dX11_retype_371 : decode cX11_retype 371 = .ok (.iload 4, 2) := by decide +kernel
theorem dX11_retype_373 : decode cX11_retype 373 = .ok (.putfield 324, 3) := by decide +kernel
theorem dX11_retype_376 : decode cX11_retype 376 = .ok (.iconst 0, 1) := by decide +kernel
theorem dX11_retype_377 : decode cX11_retype 377 = .ok (.istore 6, 2) := by decide +kernel
theorem dX11_retype_379 : decode cX11_retype 379 = .ok (.iload 6, 2) := by decide +kernel
theorem dX11_retype_381 : decode cX11_retype 381 = .ok (.sipush 136, 3) := by decide +kernel
theorem dX11_retype_384 : decode cX11_retype 384 = .ok (.if_icmp .ge 23, 3) := by decide +kernel
theorem dX11_retype_387 : decode cX11_retype 387 = .ok (.aload_n 0, 1) := by decide +kernel
theorem dX11_retype_388 : decode cX11_retype 388 = .ok (.getfield 27, 3) := by decide +kernel
theorem dX11_retype_391 : decode cX11_retype 391 = .ok (.iload 6, 2) := by decide +kernel
theorem dX11_retype_393 : decode cX11_retype 393 = .ok (.aload_n 0, 1) := by decide +kernel
theorem dX11_retype_394 : decode cX11_retype 394 = .ok (.getfield 129, 3) := by decide +kernel
theorem dX11_retype_397 : decode cX11_retype 397 = .ok (.iload 6, 2) := by decide +kernel
theorem dX11_retype_399 : decode cX11_retype 399 = .ok (.iaload, 1) := by decide +kernel
theorem dX11_retype_400 : decode cX11_retype 400 = .ok (.iastore, 1) := by decide +kernel
theorem dX11_retype_401 : decode cX11_retype 401 = .ok (.iinc 6 1, 3) := by decide +kernel
theorem dX11_retype_404 : decode cX11_retype 404 = .ok (.goto (-25), 3) := by decide +kernel
theorem dX11_retype_407 : decode cX11_retype 407 = .ok (.iload 5, 2) := by decide +kernel
theorem dX11_retype_409 : decode cX11_retype 409 = .ok (.ireturn, 1) := by decide +kernel
theorem dX11_looks_0 : decode cX11_looks 0 = .ok (.aload_n 0, 1) := by decide +kernel
theorem dX11_looks_1 : decode cX11_looks 1 = .ok (.getfield 156, 3) := by decide +kernel
theorem dX11_looks_4 : decode cX11_looks 4 = .ok (.aload_n 0, 1) := by decide +kernel
theorem dX11_looks_5 : decode cX11_looks 5 = .ok (.getfield 357, 3) := by decide +kernel
theorem dX11_looks_8 : decode cX11_looks 8 = .ok (.iload_n 1, 1) := by decide +kernel
theorem dX11_looks_9 : decode cX11_looks 9 = .ok (.iastore, 1) := by decide +kernel
theorem dX11_looks_10 : decode cX11_looks 10 = .ok (.aload_n 0, 1) := by decide +kernel
theorem dX11_looks_11 : decode cX11_looks 11 = .ok (.dup, 1) := by decide +kernel
theorem dX11_looks_12 : decode cX11_looks 12 = .ok (.getfield 357, 3) := by decide +kernel
theorem dX11_looks_15 : decode cX11_looks 15 = .ok (.iconst 1, 1) := by decide +kernel
theorem dX11_looks_16 : decode cX11_looks 16 = .ok (.iadd, 1) := by decide +kernel
theorem dX11_looks_17 : decode cX11_looks 17 = .ok (.putfield 357, 3) := by decide +kernel
theorem dX11_looks_20 : decode cX11_looks 20 = .ok (.return_, 1) := by decide +kernel
theorem dX11_hasBehind_0 : decode cX11_hasBehind 0 = .ok (.iconst 0, 1) := by decide +kernel
theorem dX11_hasBehind_1 : decode cX11_hasBehind 1 = .ok (.istore_n 3, 1) := by decide +kernel
theorem dX11_hasBehind_2 : decode cX11_hasBehind 2 = .ok (.iload_n 3, 1) := by decide +kernel
theorem dX11_hasBehind_3 : decode cX11_hasBehind 3 = .ok (.aload_n 0, 1) := by decide +kernel
theorem dX11_hasBehind_4 : decode cX11_hasBehind 4 = .ok (.getfield 30, 3) := by decide +kernel
theorem dX11_hasBehind_7 : decode cX11_hasBehind 7 = .ok (.iload_n 1, 1) := by decide +kernel
theorem dX11_hasBehind_8 : decode cX11_hasBehind 8 = .ok (.iaload, 1) := by decide +kernel
theorem dX11_hasBehind_9 : decode cX11_hasBehind 9 = .ok (.if_icmp .ge 25, 3) := by decide +kernel
theorem dX11_hasBehind_12 : decode cX11_hasBehind 12 = .ok (.aload_n 0, 1) := by decide +kernel
theorem dX11_hasBehind_13 : decode cX11_hasBehind 13 = .ok (.getfield 33, 3) := by decide +kernel
theorem dX11_hasBehind_16 : decode cX11_hasBehind 16 = .ok (.iconst 3, 1) := by decide +kernel
theorem dX11_hasBehind_17 : decode cX11_hasBehind 17 = .ok (.iload_n 1, 1) := by decide +kernel
theorem dX11_hasBehind_18 : decode cX11_hasBehind 18 = .ok (.imul, 1) := by decide +kernel
theorem dX11_hasBehind_19 : decode cX11_hasBehind 19 = .ok (.iload_n 3, 1) := by decide +kernel
theorem dX11_hasBehind_20 : decode cX11_hasBehind 20 = .ok (.iadd, 1) := by decide +kernel
theorem dX11_hasBehind_21 : decode cX11_hasBehind 21 = .ok (.iaload, 1) := by decide +kernel
theorem dX11_hasBehind_22 : decode cX11_hasBehind 22 = .ok (.iload_n 2, 1) := by decide +kernel
theorem dX11_hasBehind_23 : decode cX11_hasBehind 23 = .ok (.if_icmp .ne 5, 3) := by decide +kernel
theorem dX11_hasBehind_26 : decode cX11_hasBehind 26 = .ok (.iconst 1, 1) := by decide +kernel
theorem dX11_hasBehind_27 : decode cX11_hasBehind 27 = .ok (.ireturn, 1) := by decide +kernel
theorem dX11_hasBehind_28 : decode cX11_hasBehind 28 = .ok (.iinc 3 1, 3) := by decide +kernel
theorem dX11_hasBehind_31 : decode cX11_hasBehind 31 = .ok (.goto (-29), 3) := by decide +kernel
theorem dX11_hasBehind_34 : decode cX11_hasBehind 34 = .ok (.iconst 0, 1) := by decide +kernel
theorem dX11_hasBehind_35 : decode cX11_hasBehind 35 = .ok (.ireturn, 1) := by decide +kernel
theorem dX11_drop_0 : decode cX11_drop 0 = .ok (.aload_n 0, 1) := by decide +kernel
theorem dX11_drop_1 : decode cX11_drop 1 = .ok (.iload_n 1, 1) := by decide +kernel
theorem dX11_drop_2 : decode cX11_drop 2 = .ok (.invokevirtual 162, 3) := by decide +kernel
theorem dX11_drop_5 : decode cX11_drop 5 = .ok (.ifCond .ne 5, 3) := by decide +kernel
theorem dX11_drop_8 : decode cX11_drop 8 = .ok (.iconst (-1), 1) := by decide +kernel
theorem dX11_drop_9 : decode cX11_drop 9 = .ok (.ireturn, 1) := by decide +kernel
theorem dX11_drop_10 : decode cX11_drop 10 = .ok (.iconst 0, 1) := by decide +kernel
theorem dX11_drop_11 : decode cX11_drop 11 = .ok (.istore_n 2, 1) := by decide +kernel
theorem dX11_drop_12 : decode cX11_drop 12 = .ok (.iload_n 2, 1) := by decide +kernel
theorem dX11_drop_13 : decode cX11_drop 13 = .ok (.aload_n 0, 1) := by decide +kernel
theorem dX11_drop_14 : decode cX11_drop 14 = .ok (.getfield 159, 3) := by decide +kernel
theorem dX11_drop_17 : decode cX11_drop 17 = .ok (.if_icmp .ge 30, 3) := by decide +kernel
theorem dX11_drop_20 : decode cX11_drop 20 = .ok (.aload_n 0, 1) := by decide +kernel
theorem dX11_drop_21 : decode cX11_drop 21 = .ok (.getfield 7, 3) := by decide +kernel
theorem dX11_drop_24 : decode cX11_drop 24 = .ok (.iload_n 2, 1) := by decide +kernel
theorem dX11_drop_25 : decode cX11_drop 25 = .ok (.baload, 1) := by decide +kernel
theorem dX11_drop_26 : decode cX11_drop 26 = .ok (.ifCond .eq 15, 3) := by decide +kernel
theorem dX11_drop_29 : decode cX11_drop 29 = .ok (.aload_n 0, 1) := by decide +kernel
theorem dX11_drop_30 : decode cX11_drop 30 = .ok (.iload_n 2, 1) := by decide +kernel
theorem dX11_drop_31 : decode cX11_drop 31 = .ok (.iload_n 1, 1) := by decide +kernel
theorem dX11_drop_32 : decode cX11_drop 32 = .ok (.invokevirtual 360, 3) := by decide +kernel
theorem dX11_drop_35 : decode cX11_drop 35 = .ok (.ifCond .eq 6, 3) := by decide +kernel
theorem dX11_drop_38 : decode cX11_drop 38 = .ok (.bipush (-2), 2) := by decide +kernel
theorem dX11_drop_40 : decode cX11_drop 40 = .ok (.ireturn, 1) := by decide +kernel
theorem dX11_drop_41 : decode cX11_drop 41 = .ok (.iinc 2 1, 3) := by decide +kernel
theorem dX11_drop_44 : decode cX11_drop 44 = .ok (.goto (-32), 3) := by decide +kernel
theorem dX11_drop_47 : decode cX11_drop 47 = .ok (.aload_n 0, 1) := by decide +kernel
theorem dX11_drop_48 : decode cX11_drop 48 = .ok (.getfield 7, 3) := by decide +kernel
theorem dX11_drop_51 : decode cX11_drop 51 = .ok (.iload_n 1, 1) := by decide +kernel
theorem dX11_drop_52 : decode cX11_drop 52 = .ok (.iconst 0, 1) := by decide +kernel
theorem dX11_drop_53 : decode cX11_drop 53 = .ok (.bastore, 1) := by decide +kernel
theorem dX11_drop_54 : decode cX11_drop 54 = .ok (.iconst 0, 1) := by decide +kernel
theorem dX11_drop_55 : decode cX11_drop 55 = .ok (.istore_n 2, 1) := by decide +kernel
theorem dX11_drop_56 : decode cX11_drop 56 = .ok (.iconst 0, 1) := by decide +kernel
theorem dX11_drop_57 : decode cX11_drop 57 = .ok (.istore_n 3, 1) := by decide +kernel
theorem dX11_drop_58 : decode cX11_drop 58 = .ok (.iload_n 3, 1) := by decide +kernel
theorem dX11_drop_59 : decode cX11_drop 59 = .ok (.aload_n 0, 1) := by decide +kernel
theorem dX11_drop_60 : decode cX11_drop 60 = .ok (.getfield 348, 3) := by decide +kernel
theorem dX11_drop_63 : decode cX11_drop 63 = .ok (.if_icmp .ge 41, 3) := by decide +kernel
theorem dX11_drop_66 : decode cX11_drop 66 = .ok (.aload_n 0, 1) := by decide +kernel
theorem dX11_drop_67 : decode cX11_drop 67 = .ok (.getfield 147, 3) := by decide +kernel
theorem dX11_drop_70 : decode cX11_drop 70 = .ok (.iload_n 3, 1) := by decide +kernel
theorem dX11_drop_71 : decode cX11_drop 71 = .ok (.iaload, 1) := by decide +kernel
theorem dX11_drop_72 : decode cX11_drop 72 = .ok (.iload_n 1, 1) := by decide +kernel
theorem dX11_drop_73 : decode cX11_drop 73 = .ok (.if_icmp .ne 25, 3) := by decide +kernel
theorem dX11_drop_76 : decode cX11_drop 76 = .ok (.aload_n 0, 1) := by decide +kernel
theorem dX11_drop_77 : decode cX11_drop 77 = .ok (.getfield 150, 3) := by decide +kernel
theorem dX11_drop_80 : decode cX11_drop 80 = .ok (.iload_n 3, 1) := by decide +kernel
theorem dX11_drop_81 : decode cX11_drop 81 = .ok (.iaload, 1) := by decide +kernel
theorem dX11_drop_82 : decode cX11_drop 82 = .ok (.ifCond .ne 6, 3) := by decide +kernel
theorem dX11_drop_85 : decode cX11_drop 85 = .ok (.goto 13, 3) := by decide +kernel
theorem dX11_drop_88 : decode cX11_drop 88 = .ok (.aload_n 0, 1) := by decide +kernel
theorem dX11_drop_89 : decode cX11_drop 89 = .ok (.getfield 150, 3) := by decide +kernel
theorem dX11_drop_92 : decode cX11_drop 92 = .ok (.iload_n 3, 1) := by decide +kernel
theorem dX11_drop_93 : decode cX11_drop 93 = .ok (.iconst 0, 1) := by decide +kernel
theorem dX11_drop_94 : decode cX11_drop 94 = .ok (.iastore, 1) := by decide +kernel
theorem dX11_drop_95 : decode cX11_drop 95 = .ok (.iinc 2 1, 3) := by decide +kernel
theorem dX11_drop_98 : decode cX11_drop 98 = .ok (.iinc 3 1, 3) := by decide +kernel
theorem dX11_drop_101 : decode cX11_drop 101 = .ok (.goto (-43), 3) := by decide +kernel
theorem dX11_drop_104 : decode cX11_drop 104 = .ok (.iload_n 2, 1) := by decide +kernel
theorem dX11_drop_105 : decode cX11_drop 105 = .ok (.ireturn, 1) := by decide +kernel
theorem dX11_freeze_0 : decode cX11_freeze 0 = .ok (.aload_n 0, 1) := by decide +kernel
theorem dX11_freeze_1 : decode cX11_freeze 1 = .ok (.iload_n 1, 1) := by decide +kernel
theorem dX11_freeze_2 : decode cX11_freeze 2 = .ok (.invokevirtual 162, 3) := by decide +kernel
theorem dX11_freeze_5 : decode cX11_freeze 5 = .ok (.ifCond .eq 13, 3) := by decide +kernel
theorem dX11_freeze_8 : decode cX11_freeze 8 = .ok (.aload_n 0, 1) := by decide +kernel
theorem dX11_freeze_9 : decode cX11_freeze 9 = .ok (.getfield 17, 3) := by decide +kernel
theorem dX11_freeze_12 : decode cX11_freeze 12 = .ok (.iload_n 1, 1) := by decide +kernel
theorem dX11_freeze_13 : decode cX11_freeze 13 = .ok (.iaload, 1) := by decide +kernel
theorem dX11_freeze_14 : decode cX11_freeze 14 = .ok (.iconst 2, 1) := by decide +kernel
theorem dX11_freeze_15 : decode cX11_freeze 15 = .ok (.if_icmp .eq 5, 3) := by decide +kernel
theorem dX11_freeze_18 : decode cX11_freeze 18 = .ok (.iconst 0, 1) := by decide +kernel
theorem dX11_freeze_19 : decode cX11_freeze 19 = .ok (.ireturn, 1) := by decide +kernel
theorem dX11_freeze_20 : decode cX11_freeze 20 = .ok (.aload_n 0, 1) := by decide +kernel
theorem dX11_freeze_21 : decode cX11_freeze 21 = .ok (.getfield 17, 3) := by decide +kernel
theorem dX11_freeze_24 : decode cX11_freeze 24 = .ok (.iload_n 1, 1) := by decide +kernel
theorem dX11_freeze_25 : decode cX11_freeze 25 = .ok (.iconst 3, 1) := by decide +kernel
theorem dX11_freeze_26 : decode cX11_freeze 26 = .ok (.iastore, 1) := by decide +kernel
theorem dX11_freeze_27 : decode cX11_freeze 27 = .ok (.aload_n 0, 1) := by decide +kernel
theorem dX11_freeze_28 : decode cX11_freeze 28 = .ok (.getfield 30, 3) := by decide +kernel
theorem dX11_freeze_31 : decode cX11_freeze 31 = .ok (.iload_n 1, 1) := by decide +kernel
theorem dX11_freeze_32 : decode cX11_freeze 32 = .ok (.iconst 0, 1) := by decide +kernel
theorem dX11_freeze_33 : decode cX11_freeze 33 = .ok (.iastore, 1) := by decide +kernel
theorem dX11_freeze_34 : decode cX11_freeze 34 = .ok (.iconst 1, 1) := by decide +kernel
theorem dX11_freeze_35 : decode cX11_freeze 35 = .ok (.ireturn, 1) := by decide +kernel
theorem dX11_today_0 : decode cX11_today 0 = .ok (.iload_n 1, 1) := by decide +kernel
theorem dX11_today_1 : decode cX11_today 1 = .ok (.aload_n 0, 1) := by decide +kernel
theorem dX11_today_2 : decode cX11_today 2 = .ok (.getfield 351, 3) := by decide +kernel
theorem dX11_today_5 : decode cX11_today 5 = .ok (.if_icmp .lt 10, 3) := by decide +kernel
theorem dX11_today_8 : decode cX11_today 8 = .ok (.iload_n 1, 1) := by decide +kernel
theorem dX11_today_9 : decode cX11_today 9 = .ok (.sipush 30000, 3) := by decide +kernel
theorem dX11_today_12 : decode cX11_today 12 = .ok (.if_icmp .le 5, 3) := by decide +kernel
theorem dX11_today_15 : decode cX11_today 15 = .ok (.iconst 0, 1) := by decide +kernel
theorem dX11_today_16 : decode cX11_today 16 = .ok (.ireturn, 1) := by decide +kernel
theorem dX11_today_17 : decode cX11_today 17 = .ok (.aload_n 0, 1) := by decide +kernel
theorem dX11_today_18 : decode cX11_today 18 = .ok (.iload_n 1, 1) := by decide +kernel
theorem dX11_today_19 : decode cX11_today 19 = .ok (.putfield 351, 3) := by decide +kernel
theorem dX11_today_22 : decode cX11_today 22 = .ok (.iconst 1, 1) := by decide +kernel
theorem dX11_today_23 : decode cX11_today 23 = .ok (.ireturn, 1) := by decide +kernel
theorem dX11_fed_0 : decode cX11_fed 0 = .ok (.aload_n 0, 1) := by decide +kernel
theorem dX11_fed_1 : decode cX11_fed 1 = .ok (.iload_n 1, 1) := by decide +kernel
theorem dX11_fed_2 : decode cX11_fed 2 = .ok (.invokevirtual 162, 3) := by decide +kernel
theorem dX11_fed_5 : decode cX11_fed 5 = .ok (.ifCond .eq 29, 3) := by decide +kernel
theorem dX11_fed_8 : decode cX11_fed 8 = .ok (.aload_n 0, 1) := by decide +kernel
theorem dX11_fed_9 : decode cX11_fed 9 = .ok (.getfield 17, 3) := by decide +kernel
theorem dX11_fed_12 : decode cX11_fed 12 = .ok (.iload_n 1, 1) := by decide +kernel
theorem dX11_fed_13 : decode cX11_fed 13 = .ok (.iaload, 1) := by decide +kernel
theorem dX11_fed_14 : decode cX11_fed 14 = .ok (.ifCond .ne 20, 3) := by decide +kernel
theorem dX11_fed_17 : decode cX11_fed 17 = .ok (.iload_n 2, 1) := by decide +kernel
theorem dX11_fed_18 : decode cX11_fed 18 = .ok (.ifCond .lt 16, 3) := by decide +kernel
theorem dX11_fed_21 : decode cX11_fed 21 = .ok (.iload_n 2, 1) := by decide +kernel
theorem dX11_fed_22 : decode cX11_fed 22 = .ok (.iload_n 3, 1) := by decide +kernel
theorem dX11_fed_23 : decode cX11_fed 23 = .ok (.if_icmp .gt 11, 3) := by decide +kernel
theorem dX11_fed_26 : decode cX11_fed 26 = .ok (.iload_n 3, 1) := by decide +kernel
theorem dX11_fed_27 : decode cX11_fed 27 = .ok (.aload_n 0, 1) := by decide +kernel
theorem dX11_fed_28 : decode cX11_fed 28 = .ok (.getfield 351, 3) := by decide +kernel
theorem dX11_fed_31 : decode cX11_fed 31 = .ok (.if_icmp .le 5, 3) := by decide +kernel
theorem dX11_fed_34 : decode cX11_fed 34 = .ok (.iconst 0, 1) := by decide +kernel
theorem dX11_fed_35 : decode cX11_fed 35 = .ok (.ireturn, 1) := by decide +kernel
theorem dX11_fed_36 : decode cX11_fed 36 = .ok (.aload_n 0, 1) := by decide +kernel
theorem dX11_fed_37 : decode cX11_fed 37 = .ok (.getfield 42, 3) := by decide +kernel
theorem dX11_fed_40 : decode cX11_fed 40 = .ok (.iload_n 1, 1) := by decide +kernel
theorem dX11_fed_41 : decode cX11_fed 41 = .ok (.iload_n 2, 1) := by decide +kernel
theorem dX11_fed_42 : decode cX11_fed 42 = .ok (.iastore, 1) := by decide +kernel
theorem dX11_fed_43 : decode cX11_fed 43 = .ok (.aload_n 0, 1) := by decide +kernel
theorem dX11_fed_44 : decode cX11_fed 44 = .ok (.getfield 45, 3) := by decide +kernel
theorem dX11_fed_47 : decode cX11_fed 47 = .ok (.iload_n 1, 1) := by decide +kernel
theorem dX11_fed_48 : decode cX11_fed 48 = .ok (.iload_n 3, 1) := by decide +kernel
theorem dX11_fed_49 : decode cX11_fed 49 = .ok (.iastore, 1) := by decide +kernel
theorem dX11_fed_50 : decode cX11_fed 50 = .ok (.iconst 1, 1) := by decide +kernel
theorem dX11_fed_51 : decode cX11_fed 51 = .ok (.ireturn, 1) := by decide +kernel
theorem dX11_run_0 : decode cX11_run 0 = .ok (.aload_n 0, 1) := by decide +kernel
theorem dX11_run_1 : decode cX11_run 1 = .ok (.iload_n 1, 1) := by decide +kernel
theorem dX11_run_2 : decode cX11_run 2 = .ok (.invokevirtual 162, 3) := by decide +kernel
theorem dX11_run_5 : decode cX11_run 5 = .ok (.ifCond .eq 13, 3) := by decide +kernel
theorem dX11_run_8 : decode cX11_run 8 = .ok (.aload_n 0, 1) := by decide +kernel
theorem dX11_run_9 : decode cX11_run 9 = .ok (.getfield 17, 3) := by decide +kernel
theorem dX11_run_12 : decode cX11_run 12 = .ok (.iload_n 1, 1) := by decide +kernel
theorem dX11_run_13 : decode cX11_run 13 = .ok (.iaload, 1) := by decide +kernel
theorem dX11_run_14 : decode cX11_run 14 = .ok (.iconst 2, 1) := by decide +kernel
theorem dX11_run_15 : decode cX11_run 15 = .ok (.if_icmp .eq 5, 3) := by decide +kernel
theorem dX11_run_18 : decode cX11_run 18 = .ok (.iconst 0, 1) := by decide +kernel
theorem dX11_run_19 : decode cX11_run 19 = .ok (.ireturn, 1) := by decide +kernel
theorem dX11_run_20 : decode cX11_run 20 = .ok (.aload_n 0, 1) := by decide +kernel
theorem dX11_run_21 : decode cX11_run 21 = .ok (.invokevirtual 313, 3) := by decide +kernel
theorem dX11_run_24 : decode cX11_run 24 = .ok (.aload_n 0, 1) := by decide +kernel
theorem dX11_run_25 : decode cX11_run 25 = .ok (.iload_n 1, 1) := by decide +kernel
theorem dX11_run_26 : decode cX11_run 26 = .ok (.invokevirtual 310, 3) := by decide +kernel
theorem dX11_run_29 : decode cX11_run 29 = .ok (.aload_n 0, 1) := by decide +kernel
theorem dX11_run_30 : decode cX11_run 30 = .ok (.getfield 135, 3) := by decide +kernel
theorem dX11_run_33 : decode cX11_run 33 = .ok (.iload_n 1, 1) := by decide +kernel
theorem dX11_run_34 : decode cX11_run 34 = .ok (.iaload, 1) := by decide +kernel
theorem dX11_run_35 : decode cX11_run 35 = .ok (.iconst (-1), 1) := by decide +kernel
theorem dX11_run_36 : decode cX11_run 36 = .ok (.if_icmp .ne 5, 3) := by decide +kernel
theorem dX11_run_39 : decode cX11_run 39 = .ok (.iconst 0, 1) := by decide +kernel
theorem dX11_run_40 : decode cX11_run 40 = .ok (.ireturn, 1) := by decide +kernel
theorem dX11_run_41 : decode cX11_run 41 = .ok (.aload_n 0, 1) := by decide +kernel
theorem dX11_run_42 : decode cX11_run 42 = .ok (.getfield 42, 3) := by decide +kernel
theorem dX11_run_45 : decode cX11_run 45 = .ok (.iload_n 1, 1) := by decide +kernel
theorem dX11_run_46 : decode cX11_run 46 = .ok (.aload_n 0, 1) := by decide +kernel
theorem dX11_run_47 : decode cX11_run 47 = .ok (.getfield 132, 3) := by decide +kernel
theorem dX11_run_50 : decode cX11_run 50 = .ok (.iload_n 1, 1) := by decide +kernel
theorem dX11_run_51 : decode cX11_run 51 = .ok (.iaload, 1) := by decide +kernel
theorem dX11_run_52 : decode cX11_run 52 = .ok (.iastore, 1) := by decide +kernel
theorem dX11_run_53 : decode cX11_run 53 = .ok (.aload_n 0, 1) := by decide +kernel
theorem dX11_run_54 : decode cX11_run 54 = .ok (.getfield 45, 3) := by decide +kernel
theorem dX11_run_57 : decode cX11_run 57 = .ok (.iload_n 1, 1) := by decide +kernel
theorem dX11_run_58 : decode cX11_run 58 = .ok (.aload_n 0, 1) := by decide +kernel
theorem dX11_run_59 : decode cX11_run 59 = .ok (.getfield 135, 3) := by decide +kernel
theorem dX11_run_62 : decode cX11_run 62 = .ok (.iload_n 1, 1) := by decide +kernel
theorem dX11_run_63 : decode cX11_run 63 = .ok (.iaload, 1) := by decide +kernel
theorem dX11_run_64 : decode cX11_run 64 = .ok (.iastore, 1) := by decide +kernel
theorem dX11_run_65 : decode cX11_run 65 = .ok (.iconst 1, 1) := by decide +kernel
theorem dX11_run_66 : decode cX11_run 66 = .ok (.ireturn, 1) := by decide +kernel
theorem dX11_promise_0 : decode cX11_promise 0 = .ok (.aload_n 0, 1) := by decide +kernel
theorem dX11_promise_1 : decode cX11_promise 1 = .ok (.iload_n 1, 1) := by decide +kernel
theorem dX11_promise_2 : decode cX11_promise 2 = .ok (.invokevirtual 162, 3) := by decide +kernel
theorem dX11_promise_5 : decode cX11_promise 5 = .ok (.ifCond .eq 15, 3) := by decide +kernel
theorem dX11_promise_8 : decode cX11_promise 8 = .ok (.iload_n 2, 1) := by decide +kernel
theorem dX11_promise_9 : decode cX11_promise 9 = .ok (.iconst (-1), 1) := by decide +kernel
theorem dX11_promise_10 : decode cX11_promise 10 = .ok (.if_icmp .lt 10, 3) := by decide +kernel
theorem dX11_promise_13 : decode cX11_promise 13 = .ok (.iload_n 2, 1) := by decide +kernel
theorem dX11_promise_14 : decode cX11_promise 14 = .ok (.sipush 1000, 3) := by decide +kernel
theorem dX11_promise_17 : decode cX11_promise 17 = .ok (.if_icmp .le 5, 3) := by decide +kernel
theorem dX11_promise_20 : decode cX11_promise 20 = .ok (.iconst 0, 1) := by decide +kernel
theorem dX11_promise_21 : decode cX11_promise 21 = .ok (.ireturn, 1) := by decide +kernel
theorem dX11_promise_22 : decode cX11_promise 22 = .ok (.aload_n 0, 1) := by decide +kernel
theorem dX11_promise_23 : decode cX11_promise 23 = .ok (.getfield 39, 3) := by decide +kernel
theorem dX11_promise_26 : decode cX11_promise 26 = .ok (.iload_n 1, 1) := by decide +kernel
theorem dX11_promise_27 : decode cX11_promise 27 = .ok (.iload_n 2, 1) := by decide +kernel
theorem dX11_promise_28 : decode cX11_promise 28 = .ok (.iastore, 1) := by decide +kernel
theorem dX11_promise_29 : decode cX11_promise 29 = .ok (.iconst 1, 1) := by decide +kernel
theorem dX11_promise_30 : decode cX11_promise 30 = .ok (.ireturn, 1) := by decide +kernel
theorem dX11_isBroken_0 : decode cX11_isBroken 0 = .ok (.aload_n 0, 1) := by decide +kernel
theorem dX11_isBroken_1 : decode cX11_isBroken 1 = .ok (.getfield 39, 3) := by decide +kernel
theorem dX11_isBroken_4 : decode cX11_isBroken 4 = .ok (.iload_n 1, 1) := by decide +kernel
theorem dX11_isBroken_5 : decode cX11_isBroken 5 = .ok (.iaload, 1) := by decide +kernel
theorem dX11_isBroken_6 : decode cX11_isBroken 6 = .ok (.iconst (-1), 1) := by decide +kernel
theorem dX11_isBroken_7 : decode cX11_isBroken 7 = .ok (.if_icmp .eq 37, 3) := by decide +kernel
theorem dX11_isBroken_10 : decode cX11_isBroken 10 = .ok (.aload_n 0, 1) := by decide +kernel
theorem dX11_isBroken_11 : decode cX11_isBroken 11 = .ok (.getfield 135, 3) := by decide +kernel
theorem dX11_isBroken_14 : decode cX11_isBroken 14 = .ok (.iload_n 1, 1) := by decide +kernel
theorem dX11_isBroken_15 : decode cX11_isBroken 15 = .ok (.iaload, 1) := by decide +kernel
theorem dX11_isBroken_16 : decode cX11_isBroken 16 = .ok (.iconst (-1), 1) := by decide +kernel
theorem dX11_isBroken_17 : decode cX11_isBroken 17 = .ok (.if_icmp .eq 23, 3) := by decide +kernel
theorem dX11_isBroken_20 : decode cX11_isBroken 20 = .ok (.aload_n 0, 1) := by decide +kernel
theorem dX11_isBroken_21 : decode cX11_isBroken 21 = .ok (.getfield 135, 3) := by decide +kernel
theorem dX11_isBroken_24 : decode cX11_isBroken 24 = .ok (.iload_n 1, 1) := by decide +kernel
theorem dX11_isBroken_25 : decode cX11_isBroken 25 = .ok (.iaload, 1) := by decide +kernel
theorem dX11_isBroken_26 : decode cX11_isBroken 26 = .ok (.aload_n 0, 1) := by decide +kernel
theorem dX11_isBroken_27 : decode cX11_isBroken 27 = .ok (.getfield 351, 3) := by decide +kernel
theorem dX11_isBroken_30 : decode cX11_isBroken 30 = .ok (.aload_n 0, 1) := by decide +kernel
theorem dX11_isBroken_31 : decode cX11_isBroken 31 = .ok (.getfield 39, 3) := by decide +kernel
theorem dX11_isBroken_34 : decode cX11_isBroken 34 = .ok (.iload_n 1, 1) := by decide +kernel
theorem dX11_isBroken_35 : decode cX11_isBroken 35 = .ok (.iaload, 1) := by decide +kernel
theorem dX11_isBroken_36 : decode cX11_isBroken 36 = .ok (.isub, 1) := by decide +kernel
theorem dX11_isBroken_37 : decode cX11_isBroken 37 = .ok (.if_icmp .ge 7, 3) := by decide +kernel
theorem dX11_isBroken_40 : decode cX11_isBroken 40 = .ok (.iconst 1, 1) := by decide +kernel
theorem dX11_isBroken_41 : decode cX11_isBroken 41 = .ok (.goto 4, 3) := by decide +kernel
theorem dX11_isBroken_44 : decode cX11_isBroken 44 = .ok (.iconst 0, 1) := by decide +kernel
theorem dX11_isBroken_45 : decode cX11_isBroken 45 = .ok (.ireturn, 1) := by decide +kernel
theorem dX11_broken_0 : decode cX11_broken 0 = .ok (.aload_n 0, 1) := by decide +kernel
theorem dX11_broken_1 : decode cX11_broken 1 = .ok (.invokevirtual 313, 3) := by decide +kernel
theorem dX11_broken_4 : decode cX11_broken 4 = .ok (.aload_n 0, 1) := by decide +kernel
theorem dX11_broken_5 : decode cX11_broken 5 = .ok (.iconst 0, 1) := by decide +kernel
theorem dX11_broken_6 : decode cX11_broken 6 = .ok (.putfield 324, 3) := by decide +kernel
theorem dX11_broken_9 : decode cX11_broken 9 = .ok (.iconst 0, 1) := by decide +kernel
theorem dX11_broken_10 : decode cX11_broken 10 = .ok (.istore_n 1, 1) := by decide +kernel
theorem dX11_broken_11 : decode cX11_broken 11 = .ok (.iload_n 1, 1) := by decide +kernel
theorem dX11_broken_12 : decode cX11_broken 12 = .ok (.aload_n 0, 1) := by decide +kernel
theorem dX11_broken_13 : decode cX11_broken 13 = .ok (.getfield 159, 3) := by decide +kernel
theorem dX11_broken_16 : decode cX11_broken 16 = .ok (.if_icmp .ge 31, 3) := by decide +kernel
theorem dX11_broken_19 : decode cX11_broken 19 = .ok (.aload_n 0, 1) := by decide +kernel
theorem dX11_broken_20 : decode cX11_broken 20 = .ok (.getfield 7, 3) := by decide +kernel
theorem dX11_broken_23 : decode cX11_broken 23 = .ok (.iload_n 1, 1) := by decide +kernel
theorem dX11_broken_24 : decode cX11_broken 24 = .ok (.baload, 1) := by decide +kernel
theorem dX11_broken_25 : decode cX11_broken 25 = .ok (.ifCond .eq 16, 3) := by decide +kernel
theorem dX11_broken_28 : decode cX11_broken 28 = .ok (.aload_n 0, 1) := by decide +kernel
theorem dX11_broken_29 : decode cX11_broken 29 = .ok (.iload_n 1, 1) := by decide +kernel
theorem dX11_broken_30 : decode cX11_broken 30 = .ok (.invokevirtual 363, 3) := by decide +kernel
theorem dX11_broken_33 : decode cX11_broken 33 = .ok (.ifCond .eq 8, 3) := by decide +kernel
theorem dX11_broken_36 : decode cX11_broken 36 = .ok (.aload_n 0, 1) := by decide +kernel
theorem dX11_broken_37 : decode cX11_broken 37 = .ok (.iload_n 1, 1) := by decide +kernel
theorem dX11_broken_38 : decode cX11_broken 38 = .ok (.invokevirtual 339, 3) := by decide +kernel
theorem dX11_broken_41 : decode cX11_broken 41 = .ok (.iinc 1 1, 3) := by decide +kernel
theorem dX11_broken_44 : decode cX11_broken 44 = .ok (.goto (-33), 3) := by decide +kernel
theorem dX11_broken_47 : decode cX11_broken 47 = .ok (.aload_n 0, 1) := by decide +kernel
theorem dX11_broken_48 : decode cX11_broken 48 = .ok (.getfield 324, 3) := by decide +kernel
theorem dX11_broken_51 : decode cX11_broken 51 = .ok (.ireturn, 1) := by decide +kernel
theorem dX11_late_0 : decode cX11_late 0 = .ok (.aload_n 0, 1) := by decide +kernel
theorem dX11_late_1 : decode cX11_late 1 = .ok (.iload_n 1, 1) := by decide +kernel
theorem dX11_late_2 : decode cX11_late 2 = .ok (.invokevirtual 162, 3) := by decide +kernel
theorem dX11_late_5 : decode cX11_late 5 = .ok (.ifCond .ne 5, 3) := by decide +kernel
theorem dX11_late_8 : decode cX11_late 8 = .ok (.iconst (-1), 1) := by decide +kernel
theorem dX11_late_9 : decode cX11_late 9 = .ok (.ireturn, 1) := by decide +kernel
theorem dX11_late_10 : decode cX11_late 10 = .ok (.aload_n 0, 1) := by decide +kernel
theorem dX11_late_11 : decode cX11_late 11 = .ok (.invokevirtual 313, 3) := by decide +kernel
theorem dX11_late_14 : decode cX11_late 14 = .ok (.aload_n 0, 1) := by decide +kernel
theorem dX11_late_15 : decode cX11_late 15 = .ok (.iload_n 1, 1) := by decide +kernel
theorem dX11_late_16 : decode cX11_late 16 = .ok (.invokevirtual 363, 3) := by decide +kernel
theorem dX11_late_19 : decode cX11_late 19 = .ok (.ifCond .ne 5, 3) := by decide +kernel
theorem dX11_late_22 : decode cX11_late 22 = .ok (.iconst (-1), 1) := by decide +kernel
theorem dX11_late_23 : decode cX11_late 23 = .ok (.ireturn, 1) := by decide +kernel
theorem dX11_late_24 : decode cX11_late 24 = .ok (.iload_n 1, 1) := by decide +kernel
theorem dX11_late_25 : decode cX11_late 25 = .ok (.istore_n 2, 1) := by decide +kernel
theorem dX11_late_26 : decode cX11_late 26 = .ok (.iconst 1, 1) := by decide +kernel
theorem dX11_late_27 : decode cX11_late 27 = .ok (.istore_n 3, 1) := by decide +kernel
theorem dX11_late_28 : decode cX11_late 28 = .ok (.iload_n 3, 1) := by decide +kernel
theorem dX11_late_29 : decode cX11_late 29 = .ok (.ifCond .eq 85, 3) := by decide +kernel
theorem dX11_late_32 : decode cX11_late 32 = .ok (.iconst 0, 1) := by decide +kernel
theorem dX11_late_33 : decode cX11_late 33 = .ok (.istore_n 3, 1) := by decide +kernel
theorem dX11_late_34 : decode cX11_late 34 = .ok (.iconst 0, 1) := by decide +kernel
theorem dX11_late_35 : decode cX11_late 35 = .ok (.istore 4, 2) := by decide +kernel
theorem dX11_late_37 : decode cX11_late 37 = .ok (.iload 4, 2) := by decide +kernel
theorem dX11_late_39 : decode cX11_late 39 = .ok (.aload_n 0, 1) := by decide +kernel
theorem dX11_late_40 : decode cX11_late 40 = .ok (.getfield 30, 3) := by decide +kernel
theorem dX11_late_43 : decode cX11_late 43 = .ok (.iload_n 2, 1) := by decide +kernel
theorem dX11_late_44 : decode cX11_late 44 = .ok (.iaload, 1) := by decide +kernel
theorem dX11_late_45 : decode cX11_late 45 = .ok (.if_icmp .ge 66, 3) := by decide +kernel
theorem dX11_late_48 : decode cX11_late 48 = .ok (.iload_n 3, 1) := by decide +kernel
theorem dX11_late_49 : decode cX11_late 49 = .ok (.ifCond .ne 62, 3) := by decide +kernel
theorem dX11_late_52 : decode cX11_late 52 = .ok (.aload_n 0, 1) := by decide +kernel
theorem dX11_late_53 : decode cX11_late 53 = .ok (.getfield 33, 3) := by decide +kernel
theorem dX11_late_56 : decode cX11_late 56 = .ok (.iconst 3, 1) := by decide +kernel
theorem dX11_late_57 : decode cX11_late 57 = .ok (.iload_n 2, 1) := by decide +kernel
theorem dX11_late_58 : decode cX11_late 58 = .ok (.imul, 1) := by decide +kernel
theorem dX11_late_59 : decode cX11_late 59 = .ok (.iload 4, 2) := by decide +kernel
theorem dX11_late_61 : decode cX11_late 61 = .ok (.iadd, 1) := by decide +kernel
theorem dX11_late_62 : decode cX11_late 62 = .ok (.iaload, 1) := by decide +kernel
theorem dX11_late_63 : decode cX11_late 63 = .ok (.istore 5, 2) := by decide +kernel
theorem dX11_late_65 : decode cX11_late 65 = .ok (.aload_n 0, 1) := by decide +kernel
theorem dX11_late_66 : decode cX11_late 66 = .ok (.getfield 135, 3) := by decide +kernel
theorem dX11_late_69 : decode cX11_late 69 = .ok (.iload 5, 2) := by decide +kernel
theorem dX11_late_71 : decode cX11_late 71 = .ok (.iaload, 1) := by decide +kernel
theorem dX11_late_72 : decode cX11_late 72 = .ok (.iconst (-1), 1) := by decide +kernel
theorem dX11_late_73 : decode cX11_late 73 = .ok (.if_icmp .eq 27, 3) := by decide +kernel
theorem dX11_late_76 : decode cX11_late 76 = .ok (.aload_n 0, 1) := by decide +kernel
theorem dX11_late_77 : decode cX11_late 77 = .ok (.getfield 135, 3) := by decide +kernel
theorem dX11_late_80 : decode cX11_late 80 = .ok (.iload 5, 2) := by decide +kernel
theorem dX11_late_82 : decode cX11_late 82 = .ok (.iaload, 1) := by decide +kernel
theorem dX11_late_83 : decode cX11_late 83 = .ok (.aload_n 0, 1) := by decide +kernel
theorem dX11_late_84 : decode cX11_late 84 = .ok (.getfield 351, 3) := by decide +kernel
theorem dX11_late_87 : decode cX11_late 87 = .ok (.aload_n 0, 1) := by decide +kernel
theorem dX11_late_88 : decode cX11_late 88 = .ok (.getfield 39, 3) := by decide +kernel
theorem dX11_late_91 : decode cX11_late 91 = .ok (.iload_n 1, 1) := by decide +kernel
theorem dX11_late_92 : decode cX11_late 92 = .ok (.iaload, 1) := by decide +kernel
theorem dX11_late_93 : decode cX11_late 93 = .ok (.isub, 1) := by decide +kernel
theorem dX11_late_94 : decode cX11_late 94 = .ok (.if_icmp .lt 6, 3) := by decide +kernel
theorem dX11_late_97 : decode cX11_late 97 = .ok (.goto 8, 3) := by decide +kernel
theorem dX11_late_100 : decode cX11_late 100 = .ok (.iload 5, 2) := by decide +kernel
theorem dX11_late_102 : decode cX11_late 102 = .ok (.istore_n 2, 1) := by decide +kernel
theorem dX11_late_103 : decode cX11_late 103 = .ok (.iconst 1, 1) := by decide +kernel
theorem dX11_late_104 : decode cX11_late 104 = .ok (.istore_n 3, 1) := by decide +kernel
theorem dX11_late_105 : decode cX11_late 105 = .ok (.iinc 4 1, 3) := by decide +kernel
theorem dX11_late_108 : decode cX11_late 108 = .ok (.goto (-71), 3) := by decide +kernel
theorem dX11_late_111 : decode cX11_late 111 = .ok (.goto (-83), 3) := by decide +kernel
theorem dX11_late_114 : decode cX11_late 114 = .ok (.iload_n 2, 1) := by decide +kernel
theorem dX11_late_115 : decode cX11_late 115 = .ok (.ireturn, 1) := by decide +kernel
theorem dX11_own_0 : decode cX11_own 0 = .ok (.aload_n 0, 1) := by decide +kernel
theorem dX11_own_1 : decode cX11_own 1 = .ok (.iload_n 1, 1) := by decide +kernel
theorem dX11_own_2 : decode cX11_own 2 = .ok (.invokevirtual 162, 3) := by decide +kernel
theorem dX11_own_5 : decode cX11_own 5 = .ok (.ifCond .eq 14, 3) := by decide +kernel
theorem dX11_own_8 : decode cX11_own 8 = .ok (.iload_n 2, 1) := by decide +kernel
theorem dX11_own_9 : decode cX11_own 9 = .ok (.iconst (-1), 1) := by decide +kernel
theorem dX11_own_10 : decode cX11_own 10 = .ok (.if_icmp .lt 9, 3) := by decide +kernel
theorem dX11_own_13 : decode cX11_own 13 = .ok (.iload_n 2, 1) := by decide +kernel
theorem dX11_own_14 : decode cX11_own 14 = .ok (.bipush 9, 2) := by decide +kernel
theorem dX11_own_16 : decode cX11_own 16 = .ok (.if_icmp .le 5, 3) := by decide +kernel
theorem dX11_own_19 : decode cX11_own 19 = .ok (.iconst 0, 1) := by decide +kernel
theorem dX11_own_20 : decode cX11_own 20 = .ok (.ireturn, 1) := by decide +kernel
theorem dX11_own_21 : decode cX11_own 21 = .ok (.aload_n 0, 1) := by decide +kernel
theorem dX11_own_22 : decode cX11_own 22 = .ok (.getfield 36, 3) := by decide +kernel
theorem dX11_own_25 : decode cX11_own 25 = .ok (.iload_n 1, 1) := by decide +kernel
theorem dX11_own_26 : decode cX11_own 26 = .ok (.iload_n 2, 1) := by decide +kernel
theorem dX11_own_27 : decode cX11_own 27 = .ok (.iastore, 1) := by decide +kernel
theorem dX11_own_28 : decode cX11_own 28 = .ok (.iconst 1, 1) := by decide +kernel
theorem dX11_own_29 : decode cX11_own 29 = .ok (.ireturn, 1) := by decide +kernel
theorem dX11_unused_0 : decode cX11_unused 0 = .ok (.aload_n 0, 1) := by decide +kernel
theorem dX11_unused_1 : decode cX11_unused 1 = .ok (.invokevirtual 333, 3) := by decide +kernel
theorem dX11_unused_4 : decode cX11_unused 4 = .ok (.iconst 0, 1) := by decide +kernel
theorem dX11_unused_5 : decode cX11_unused 5 = .ok (.istore_n 2, 1) := by decide +kernel
theorem dX11_unused_6 : decode cX11_unused 6 = .ok (.iload_n 2, 1) := by decide +kernel
theorem dX11_unused_7 : decode cX11_unused 7 = .ok (.aload_n 0, 1) := by decide +kernel
theorem dX11_unused_8 : decode cX11_unused 8 = .ok (.getfield 348, 3) := by decide +kernel
theorem dX11_unused_11 : decode cX11_unused 11 = .ok (.if_icmp .ge 40, 3) := by decide +kernel
theorem dX11_unused_14 : decode cX11_unused 14 = .ok (.aload_n 0, 1) := by decide +kernel
theorem dX11_unused_15 : decode cX11_unused 15 = .ok (.getfield 150, 3) := by decide +kernel
theorem dX11_unused_18 : decode cX11_unused 18 = .ok (.iload_n 2, 1) := by decide +kernel
theorem dX11_unused_19 : decode cX11_unused 19 = .ok (.iaload, 1) := by decide +kernel
theorem dX11_unused_20 : decode cX11_unused 20 = .ok (.ifCond .le 25, 3) := by decide +kernel
theorem dX11_unused_23 : decode cX11_unused 23 = .ok (.aload_n 0, 1) := by decide +kernel
theorem dX11_unused_24 : decode cX11_unused 24 = .ok (.getfield 153, 3) := by decide +kernel
theorem dX11_unused_27 : decode cX11_unused 27 = .ok (.iload_n 2, 1) := by decide +kernel
theorem dX11_unused_28 : decode cX11_unused 28 = .ok (.iaload, 1) := by decide +kernel
theorem dX11_unused_29 : decode cX11_unused 29 = .ok (.iload_n 1, 1) := by decide +kernel
theorem dX11_unused_30 : decode cX11_unused 30 = .ok (.if_icmp .lt 15, 3) := by decide +kernel
theorem dX11_unused_33 : decode cX11_unused 33 = .ok (.aload_n 0, 1) := by decide +kernel
theorem dX11_unused_34 : decode cX11_unused 34 = .ok (.getfield 138, 3) := by decide +kernel
theorem dX11_unused_37 : decode cX11_unused 37 = .ok (.aload_n 0, 1) := by decide +kernel
theorem dX11_unused_38 : decode cX11_unused 38 = .ok (.getfield 147, 3) := by decide +kernel
theorem dX11_unused_41 : decode cX11_unused 41 = .ok (.iload_n 2, 1) := by decide +kernel
theorem dX11_unused_42 : decode cX11_unused 42 = .ok (.iaload, 1) := by decide +kernel
theorem dX11_unused_43 : decode cX11_unused 43 = .ok (.iconst 1, 1) := by decide +kernel
theorem dX11_unused_44 : decode cX11_unused 44 = .ok (.bastore, 1) := by decide +kernel
theorem dX11_unused_45 : decode cX11_unused 45 = .ok (.iinc 2 1, 3) := by decide +kernel
theorem dX11_unused_48 : decode cX11_unused 48 = .ok (.goto (-42), 3) := by decide +kernel
theorem dX11_unused_51 : decode cX11_unused 51 = .ok (.aload_n 0, 1) := by decide +kernel
theorem dX11_unused_52 : decode cX11_unused 52 = .ok (.getfield 159, 3) := by decide +kernel
theorem dX11_unused_55 : decode cX11_unused 55 = .ok (.iconst 1, 1) := by decide +kernel
theorem dX11_unused_56 : decode cX11_unused 56 = .ok (.isub, 1) := by decide +kernel
theorem dX11_unused_57 : decode cX11_unused 57 = .ok (.istore_n 2, 1) := by decide +kernel
theorem dX11_unused_58 : decode cX11_unused 58 = .ok (.iload_n 2, 1) := by decide +kernel
theorem dX11_unused_59 : decode cX11_unused 59 = .ok (.ifCond .lt 64, 3) := by decide +kernel
theorem dX11_unused_62 : decode cX11_unused 62 = .ok (.aload_n 0, 1) := by decide +kernel
theorem dX11_unused_63 : decode cX11_unused 63 = .ok (.getfield 7, 3) := by decide +kernel
theorem dX11_unused_66 : decode cX11_unused 66 = .ok (.iload_n 2, 1) := by decide +kernel
theorem dX11_unused_67 : decode cX11_unused 67 = .ok (.baload, 1) := by decide +kernel
theorem dX11_unused_68 : decode cX11_unused 68 = .ok (.ifCond .eq 49, 3) := by decide +kernel
theorem dX11_unused_71 : decode cX11_unused 71 = .ok (.aload_n 0, 1) := by decide +kernel
theorem dX11_unused_72 : decode cX11_unused 72 = .ok (.getfield 138, 3) := by decide +kernel
theorem dX11_unused_75 : decode cX11_unused 75 = .ok (.iload_n 2, 1) := by decide +kernel
theorem dX11_unused_76 : decode cX11_unused 76 = .ok (.baload, 1) := by decide +kernel
theorem dX11_unused_77 : decode cX11_unused 77 = .ok (.ifCond .ne 6, 3) := by decide +kernel
theorem dX11_unused_80 : decode cX11_unused 80 = .ok (.goto 37, 3) := by decide +kernel
theorem dX11_unused_83 : decode cX11_unused 83 = .ok (.iconst 0, 1) := by decide +kernel
theorem dX11_unused_84 : decode cX11_unused 84 = .ok (.istore_n 3, 1) := by decide +kernel
theorem dX11_unused_85 : decode cX11_unused 85 = .ok (.iload_n 3, 1) := by decide +kernel
theorem dX11_unused_86 : decode cX11_unused 86 = .ok (.aload_n 0, 1) := by decide +kernel
theorem dX11_unused_87 : decode cX11_unused 87 = .ok (.getfield 30, 3) := by decide +kernel
theorem dX11_unused_90 : decode cX11_unused 90 = .ok (.iload_n 2, 1) := by decide +kernel
theorem dX11_unused_91 : decode cX11_unused 91 = .ok (.iaload, 1) := by decide +kernel
theorem dX11_unused_92 : decode cX11_unused 92 = .ok (.if_icmp .ge 25, 3) := by decide +kernel
theorem dX11_unused_95 : decode cX11_unused 95 = .ok (.aload_n 0, 1) := by decide +kernel
theorem dX11_unused_96 : decode cX11_unused 96 = .ok (.getfield 138, 3) := by decide +kernel
theorem dX11_unused_99 : decode cX11_unused 99 = .ok (.aload_n 0, 1) := by decide +kernel
theorem dX11_unused_100 : decode cX11_unused 100 = .ok (.getfield 33, 3) := by decide +kernel
theorem dX11_unused_103 : decode cX11_unused 103 = .ok (.iconst 3, 1) := by decide +kernel
theorem dX11_unused_104 : decode cX11_unused 104 = .ok (.iload_n 2, 1) := by decide +kernel
theorem dX11_unused_105 : decode cX11_unused 105 = .ok (.imul, 1) := by decide +kernel
theorem dX11_unused_106 : decode cX11_unused 106 = .ok (.iload_n 3, 1) := by decide +kernel
theorem dX11_unused_107 : decode cX11_unused 107 = .ok (.iadd, 1) := by decide +kernel
theorem dX11_unused_108 : decode cX11_unused 108 = .ok (.iaload, 1) := by decide +kernel
theorem dX11_unused_109 : decode cX11_unused 109 = .ok (.iconst 1, 1) := by decide +kernel
theorem dX11_unused_110 : decode cX11_unused 110 = .ok (.bastore, 1) := by decide +kernel
theorem dX11_unused_111 : decode cX11_unused 111 = .ok (.iinc 3 1, 3) := by decide +kernel
theorem dX11_unused_114 : decode cX11_unused 114 = .ok (.goto (-29), 3) := by decide +kernel
theorem dX11_unused_117 : decode cX11_unused 117 = .ok (.iinc 2 (-1), 3) := by decide +kernel
theorem dX11_unused_120 : decode cX11_unused 120 = .ok (.goto (-62), 3) := by decide +kernel
theorem dX11_unused_123 : decode cX11_unused 123 = .ok (.aload_n 0, 1) := by decide +kernel
theorem dX11_unused_124 : decode cX11_unused 124 = .ok (.iconst 0, 1) := by decide +kernel
theorem dX11_unused_125 : decode cX11_unused 125 = .ok (.putfield 324, 3) := by decide +kernel
theorem dX11_unused_128 : decode cX11_unused 128 = .ok (.iconst 0, 1) := by decide +kernel
theorem dX11_unused_129 : decode cX11_unused 129 = .ok (.istore_n 2, 1) := by decide +kernel
theorem dX11_unused_130 : decode cX11_unused 130 = .ok (.iload_n 2, 1) := by decide +kernel
theorem dX11_unused_131 : decode cX11_unused 131 = .ok (.aload_n 0, 1) := by decide +kernel
theorem dX11_unused_132 : decode cX11_unused 132 = .ok (.getfield 159, 3) := by decide +kernel
theorem dX11_unused_135 : decode cX11_unused 135 = .ok (.if_icmp .ge 32, 3) := by decide +kernel
theorem dX11_unused_138 : decode cX11_unused 138 = .ok (.aload_n 0, 1) := by decide +kernel
theorem dX11_unused_139 : decode cX11_unused 139 = .ok (.getfield 7, 3) := by decide +kernel
theorem dX11_unused_142 : decode cX11_unused 142 = .ok (.iload_n 2, 1) := by decide +kernel
theorem dX11_unused_143 : decode cX11_unused 143 = .ok (.baload, 1) := by decide +kernel
theorem dX11_unused_144 : decode cX11_unused 144 = .ok (.ifCond .eq 17, 3) := by decide +kernel
theorem dX11_unused_147 : decode cX11_unused 147 = .ok (.aload_n 0, 1) := by decide +kernel
theorem dX11_unused_148 : decode cX11_unused 148 = .ok (.getfield 138, 3) := by decide +kernel
theorem dX11_unused_151 : decode cX11_unused 151 = .ok (.iload_n 2, 1) := by decide +kernel
theorem dX11_unused_152 : decode cX11_unused 152 = .ok (.baload, 1) := by decide +kernel
theorem dX11_unused_153 : decode cX11_unused 153 = .ok (.ifCond .ne 8, 3) := by decide +kernel
theorem dX11_unused_156 : decode cX11_unused 156 = .ok (.aload_n 0, 1) := by decide +kernel
theorem dX11_unused_157 : decode cX11_unused 157 = .ok (.iload_n 2, 1) := by decide +kernel
theorem dX11_unused_158 : decode cX11_unused 158 = .ok (.invokevirtual 339, 3) := by decide +kernel
theorem dX11_unused_161 : decode cX11_unused 161 = .ok (.iinc 2 1, 3) := by decide +kernel
theorem dX11_unused_164 : decode cX11_unused 164 = .ok (.goto (-34), 3) := by decide +kernel
theorem dX11_unused_167 : decode cX11_unused 167 = .ok (.aload_n 0, 1) := by decide +kernel
theorem dX11_unused_168 : decode cX11_unused 168 = .ok (.getfield 324, 3) := by decide +kernel
theorem dX11_unused_171 : decode cX11_unused 171 = .ok (.ireturn, 1) := by decide +kernel
theorem dX11_isSelect_0 : decode cX11_isSelect 0 = .ok (.aload_n 0, 1) := by decide +kernel
theorem dX11_isSelect_1 : decode cX11_isSelect 1 = .ok (.iload_n 1, 1) := by decide +kernel
theorem dX11_isSelect_2 : decode cX11_isSelect 2 = .ok (.invokevirtual 162, 3) := by decide +kernel
theorem dX11_isSelect_5 : decode cX11_isSelect 5 = .ok (.ifCond .eq 27, 3) := by decide +kernel
theorem dX11_isSelect_8 : decode cX11_isSelect 8 = .ok (.aload_n 0, 1) := by decide +kernel
theorem dX11_isSelect_9 : decode cX11_isSelect 9 = .ok (.getfield 17, 3) := by decide +kernel
theorem dX11_isSelect_12 : decode cX11_isSelect 12 = .ok (.iload_n 1, 1) := by decide +kernel
theorem dX11_isSelect_13 : decode cX11_isSelect 13 = .ok (.iaload, 1) := by decide +kernel
theorem dX11_isSelect_14 : decode cX11_isSelect 14 = .ok (.iconst 1, 1) := by decide +kernel
theorem dX11_isSelect_15 : decode cX11_isSelect 15 = .ok (.if_icmp .eq 13, 3) := by decide +kernel
theorem dX11_isSelect_18 : decode cX11_isSelect 18 = .ok (.aload_n 0, 1) := by decide +kernel
theorem dX11_isSelect_19 : decode cX11_isSelect 19 = .ok (.getfield 17, 3) := by decide +kernel
theorem dX11_isSelect_22 : decode cX11_isSelect 22 = .ok (.iload_n 1, 1) := by decide +kernel
theorem dX11_isSelect_23 : decode cX11_isSelect 23 = .ok (.iaload, 1) := by decide +kernel
theorem dX11_isSelect_24 : decode cX11_isSelect 24 = .ok (.iconst 2, 1) := by decide +kernel
theorem dX11_isSelect_25 : decode cX11_isSelect 25 = .ok (.if_icmp .ne 7, 3) := by decide +kernel
theorem dX11_isSelect_28 : decode cX11_isSelect 28 = .ok (.iconst 1, 1) := by decide +kernel
theorem dX11_isSelect_29 : decode cX11_isSelect 29 = .ok (.goto 4, 3) := by decide +kernel
theorem dX11_isSelect_32 : decode cX11_isSelect 32 = .ok (.iconst 0, 1) := by decide +kernel
theorem dX11_isSelect_33 : decode cX11_isSelect 33 = .ok (.ireturn, 1) := by decide +kernel
theorem dX11_alike_0 : decode cX11_alike 0 = .ok (.aload_n 0, 1) := by decide +kernel
theorem dX11_alike_1 : decode cX11_alike 1 = .ok (.iload_n 1, 1) := by decide +kernel
theorem dX11_alike_2 : decode cX11_alike 2 = .ok (.invokevirtual 366, 3) := by decide +kernel
theorem dX11_alike_5 : decode cX11_alike 5 = .ok (.ifCond .eq 16, 3) := by decide +kernel
theorem dX11_alike_8 : decode cX11_alike 8 = .ok (.aload_n 0, 1) := by decide +kernel
theorem dX11_alike_9 : decode cX11_alike 9 = .ok (.iload_n 2, 1) := by decide +kernel
theorem dX11_alike_10 : decode cX11_alike 10 = .ok (.invokevirtual 366, 3) := by decide +kernel
theorem dX11_alike_13 : decode cX11_alike 13 = .ok (.ifCond .eq 8, 3) := by decide +kernel
theorem dX11_alike_16 : decode cX11_alike 16 = .ok (.iload_n 1, 1) := by decide +kernel
theorem dX11_alike_17 : decode cX11_alike 17 = .ok (.iload_n 2, 1) := by decide +kernel
theorem dX11_alike_18 : decode cX11_alike 18 = .ok (.if_icmp .ne 5, 3) := by decide +kernel
theorem dX11_alike_21 : decode cX11_alike 21 = .ok (.iconst (-1), 1) := by decide +kernel
theorem dX11_alike_22 : decode cX11_alike 22 = .ok (.ireturn, 1) := by decide +kernel
theorem dX11_alike_23 : decode cX11_alike 23 = .ok (.aload_n 0, 1) := by decide +kernel
theorem dX11_alike_24 : decode cX11_alike 24 = .ok (.getfield 48, 3) := by decide +kernel
theorem dX11_alike_27 : decode cX11_alike 27 = .ok (.iload_n 1, 1) := by decide +kernel
theorem dX11_alike_28 : decode cX11_alike 28 = .ok (.iaload, 1) := by decide +kernel
theorem dX11_alike_29 : decode cX11_alike 29 = .ok (.aload_n 0, 1) := by decide +kernel
theorem dX11_alike_30 : decode cX11_alike 30 = .ok (.getfield 69, 3) := by decide +kernel
theorem dX11_alike_33 : decode cX11_alike 33 = .ok (.iload_n 1, 1) := by decide +kernel
theorem dX11_alike_34 : decode cX11_alike 34 = .ok (.iaload, 1) := by decide +kernel
theorem dX11_alike_35 : decode cX11_alike 35 = .ok (.isub, 1) := by decide +kernel
theorem dX11_alike_36 : decode cX11_alike 36 = .ok (.aload_n 0, 1) := by decide +kernel
theorem dX11_alike_37 : decode cX11_alike 37 = .ok (.getfield 48, 3) := by decide +kernel
theorem dX11_alike_40 : decode cX11_alike 40 = .ok (.iload_n 2, 1) := by decide +kernel
theorem dX11_alike_41 : decode cX11_alike 41 = .ok (.iaload, 1) := by decide +kernel
theorem dX11_alike_42 : decode cX11_alike 42 = .ok (.aload_n 0, 1) := by decide +kernel
theorem dX11_alike_43 : decode cX11_alike 43 = .ok (.getfield 69, 3) := by decide +kernel
theorem dX11_alike_46 : decode cX11_alike 46 = .ok (.iload_n 2, 1) := by decide +kernel
theorem dX11_alike_47 : decode cX11_alike 47 = .ok (.iaload, 1) := by decide +kernel
theorem dX11_alike_48 : decode cX11_alike 48 = .ok (.isub, 1) := by decide +kernel
theorem dX11_alike_49 : decode cX11_alike 49 = .ok (.if_icmp .eq 5, 3) := by decide +kernel
theorem dX11_alike_52 : decode cX11_alike 52 = .ok (.iconst 0, 1) := by decide +kernel
theorem dX11_alike_53 : decode cX11_alike 53 = .ok (.ireturn, 1) := by decide +kernel
theorem dX11_alike_54 : decode cX11_alike 54 = .ok (.aload_n 0, 1) := by decide +kernel
theorem dX11_alike_55 : decode cX11_alike 55 = .ok (.getfield 69, 3) := by decide +kernel
theorem dX11_alike_58 : decode cX11_alike 58 = .ok (.iload_n 1, 1) := by decide +kernel
theorem dX11_alike_59 : decode cX11_alike 59 = .ok (.iaload, 1) := by decide +kernel
theorem dX11_alike_60 : decode cX11_alike 60 = .ok (.istore_n 3, 1) := by decide +kernel
theorem dX11_alike_61 : decode cX11_alike 61 = .ok (.aload_n 0, 1) := by decide +kernel
theorem dX11_alike_62 : decode cX11_alike 62 = .ok (.getfield 69, 3) := by decide +kernel
theorem dX11_alike_65 : decode cX11_alike 65 = .ok (.iload_n 2, 1) := by decide +kernel
theorem dX11_alike_66 : decode cX11_alike 66 = .ok (.iaload, 1) := by decide +kernel
theorem dX11_alike_67 : decode cX11_alike 67 = .ok (.istore 4, 2) := by decide +kernel
theorem dX11_alike_69 : decode cX11_alike 69 = .ok (.iload_n 3, 1) := by decide +kernel
theorem dX11_alike_70 : decode cX11_alike 70 = .ok (.aload_n 0, 1) := by decide +kernel
theorem dX11_alike_71 : decode cX11_alike 71 = .ok (.getfield 48, 3) := by decide +kernel
theorem dX11_alike_74 : decode cX11_alike 74 = .ok (.iload_n 1, 1) := by decide +kernel
theorem dX11_alike_75 : decode cX11_alike 75 = .ok (.iaload, 1) := by decide +kernel
theorem dX11_alike_76 : decode cX11_alike 76 = .ok (.if_icmp .ge 135, 3) := by decide +kernel
theorem dX11_alike_79 : decode cX11_alike 79 = .ok (.sipush 400, 3) := by decide +kernel
theorem dX11_alike_82 : decode cX11_alike 82 = .ok (.iload_n 1, 1) := by decide +kernel
theorem dX11_alike_83 : decode cX11_alike 83 = .ok (.imul, 1) := by decide +kernel
theorem dX11_alike_84 : decode cX11_alike 84 = .ok (.iload_n 3, 1) := by decide +kernel
theorem dX11_alike_85 : decode cX11_alike 85 = .ok (.iadd, 1) := by decide +kernel
theorem dX11_alike_86 : decode cX11_alike 86 = .ok (.istore 5, 2) := by decide +kernel
theorem dX11_alike_88 : decode cX11_alike 88 = .ok (.sipush 400, 3) := by decide +kernel
theorem dX11_alike_91 : decode cX11_alike 91 = .ok (.iload_n 2, 1) := by decide +kernel
theorem dX11_alike_92 : decode cX11_alike 92 = .ok (.imul, 1) := by decide +kernel
theorem dX11_alike_93 : decode cX11_alike 93 = .ok (.iload 4, 2) := by decide +kernel
theorem dX11_alike_95 : decode cX11_alike 95 = .ok (.iadd, 1) := by decide +kernel
theorem dX11_alike_96 : decode cX11_alike 96 = .ok (.istore 6, 2) := by decide +kernel
theorem dX11_alike_98 : decode cX11_alike 98 = .ok (.aload_n 0, 1) := by decide +kernel
theorem dX11_alike_99 : decode cX11_alike 99 = .ok (.getfield 51, 3) := by decide +kernel
theorem dX11_alike_102 : decode cX11_alike 102 = .ok (.iload 5, 2) := by decide +kernel
theorem dX11_alike_104 : decode cX11_alike 104 = .ok (.iaload, 1) := by decide +kernel
theorem dX11_alike_105 : decode cX11_alike 105 = .ok (.aload_n 0, 1) := by decide +kernel
theorem dX11_alike_106 : decode cX11_alike 106 = .ok (.getfield 51, 3) := by decide +kernel
theorem dX11_alike_109 : decode cX11_alike 109 = .ok (.iload 6, 2) := by decide +kernel
theorem dX11_alike_111 : decode cX11_alike 111 = .ok (.iaload, 1) := by decide +kernel
theorem dX11_alike_112 : decode cX11_alike 112 = .ok (.if_icmp .ne 20, 3) := by decide +kernel
theorem dX11_alike_115 : decode cX11_alike 115 = .ok (.aload_n 0, 1) := by decide +kernel
theorem dX11_alike_116 : decode cX11_alike 116 = .ok (.getfield 57, 3) := by decide +kernel
theorem dX11_alike_119 : decode cX11_alike 119 = .ok (.iload 5, 2) := by decide +kernel
theorem dX11_alike_121 : decode cX11_alike 121 = .ok (.iaload, 1) := by decide +kernel
theorem dX11_alike_122 : decode cX11_alike 122 = .ok (.aload_n 0, 1) := by decide +kernel
theorem dX11_alike_123 : decode cX11_alike 123 = .ok (.getfield 57, 3) := by decide +kernel
theorem dX11_alike_126 : decode cX11_alike 126 = .ok (.iload 6, 2) := by decide +kernel
theorem dX11_alike_128 : decode cX11_alike 128 = .ok (.iaload, 1) := by decide +kernel
theorem dX11_alike_129 : decode cX11_alike 129 = .ok (.if_icmp .eq 5, 3) := by decide +kernel
theorem dX11_alike_132 : decode cX11_alike 132 = .ok (.iconst 0, 1) := by decide +kernel
theorem dX11_alike_133 : decode cX11_alike 133 = .ok (.ireturn, 1) := by decide +kernel
theorem dX11_alike_134 : decode cX11_alike 134 = .ok (.iconst 0, 1) := by decide +kernel
theorem dX11_alike_135 : decode cX11_alike 135 = .ok (.istore 7, 2) := by decide +kernel
theorem dX11_alike_137 : decode cX11_alike 137 = .ok (.iload 7, 2) := by decide +kernel
theorem dX11_alike_139 : decode cX11_alike 139 = .ok (.aload_n 0, 1) := by decide +kernel
theorem dX11_alike_140 : decode cX11_alike 140 = .ok (.getfield 57, 3) := by decide +kernel
theorem dX11_alike_143 : decode cX11_alike 143 = .ok (.iload 5, 2) := by decide +kernel
theorem dX11_alike_145 : decode cX11_alike 145 = .ok (.iaload, 1) := by decide +kernel
theorem dX11_alike_146 : decode cX11_alike 146 = .ok (.if_icmp .ge 56, 3) := by decide +kernel
theorem dX11_alike_149 : decode cX11_alike 149 = .ok (.aload_n 0, 1) := by decide +kernel
theorem dX11_alike_150 : decode cX11_alike 150 = .ok (.getfield 60, 3) := by decide +kernel
theorem dX11_alike_153 : decode cX11_alike 153 = .ok (.sipush 400, 3) := by decide +kernel
theorem dX11_alike_156 : decode cX11_alike 156 = .ok (.iload_n 1, 1) := by decide +kernel
theorem dX11_alike_157 : decode cX11_alike 157 = .ok (.imul, 1) := by decide +kernel
theorem dX11_alike_158 : decode cX11_alike 158 = .ok (.aload_n 0, 1) := by decide +kernel
theorem dX11_alike_159 : decode cX11_alike 159 = .ok (.getfield 54, 3) := by decide +kernel
theorem dX11_alike_162 : decode cX11_alike 162 = .ok (.iload 5, 2) := by decide +kernel
theorem dX11_alike_164 : decode cX11_alike 164 = .ok (.iaload, 1) := by decide +kernel
theorem dX11_alike_165 : decode cX11_alike 165 = .ok (.iadd, 1) := by decide +kernel
theorem dX11_alike_166 : decode cX11_alike 166 = .ok (.iload 7, 2) := by decide +kernel
theorem dX11_alike_168 : decode cX11_alike 168 = .ok (.iadd, 1) := by decide +kernel
theorem dX11_alike_169 : decode cX11_alike 169 = .ok (.iaload, 1) := by decide +kernel
theorem dX11_alike_170 : decode cX11_alike 170 = .ok (.aload_n 0, 1) := by decide +kernel
theorem dX11_alike_171 : decode cX11_alike 171 = .ok (.getfield 60, 3) := by decide +kernel
theorem dX11_alike_174 : decode cX11_alike 174 = .ok (.sipush 400, 3) := by decide +kernel
theorem dX11_alike_177 : decode cX11_alike 177 = .ok (.iload_n 2, 1) := by decide +kernel
theorem dX11_alike_178 : decode cX11_alike 178 = .ok (.imul, 1) := by decide +kernel
theorem dX11_alike_179 : decode cX11_alike 179 = .ok (.aload_n 0, 1) := by decide +kernel
theorem dX11_alike_180 : decode cX11_alike 180 = .ok (.getfield 54, 3) := by decide +kernel
theorem dX11_alike_183 : decode cX11_alike 183 = .ok (.iload 6, 2) := by decide +kernel
theorem dX11_alike_185 : decode cX11_alike 185 = .ok (.iaload, 1) := by decide +kernel
theorem dX11_alike_186 : decode cX11_alike 186 = .ok (.iadd, 1) := by decide +kernel
theorem dX11_alike_187 : decode cX11_alike 187 = .ok (.iload 7, 2) := by decide +kernel
theorem dX11_alike_189 : decode cX11_alike 189 = .ok (.iadd, 1) := by decide +kernel
theorem dX11_alike_190 : decode cX11_alike 190 = .ok (.iaload, 1) := by decide +kernel
theorem dX11_alike_191 : decode cX11_alike 191 = .ok (.if_icmp .eq 5, 3) := by decide +kernel
theorem dX11_alike_194 : decode cX11_alike 194 = .ok (.iconst 0, 1) := by decide +kernel
theorem dX11_alike_195 : decode cX11_alike 195 = .ok (.ireturn, 1) := by decide +kernel
theorem dX11_alike_196 : decode cX11_alike 196 = .ok (.iinc 7 1, 3) := by decide +kernel
theorem dX11_alike_199 : decode cX11_alike 199 = .ok (.goto (-62), 3) := by decide +kernel
theorem dX11_alike_202 : decode cX11_alike 202 = .ok (.iinc 3 1, 3) := by decide +kernel
theorem dX11_alike_205 : decode cX11_alike 205 = .ok (.iinc 4 1, 3) := by decide +kernel
theorem dX11_alike_208 : decode cX11_alike 208 = .ok (.goto (-139), 3) := by decide +kernel
theorem dX11_alike_211 : decode cX11_alike 211 = .ok (.iconst 1, 1) := by decide +kernel
theorem dX11_alike_212 : decode cX11_alike 212 = .ok (.ireturn, 1) := by decide +kernel
