theorem dX12_init_0 : decode cX12_init 0 = .ok (.aload_n 0, 1) := by decide +kernel
theorem dX12_init_1 : decode cX12_init 1 = .ok (.invokespecial 7, 3) := by decide +kernel
theorem dX12_init_4 : decode cX12_init 4 = .ok (.aload_n 0, 1) := by decide +kernel
theorem dX12_init_5 : decode cX12_init 5 = .ok (.sipush 2000, 3) := by decide +kernel
theorem dX12_init_8 : decode cX12_init 8 = .ok (.newarray .byte, 2) := by decide +kernel
theorem dX12_init_10 : decode cX12_init 10 = .ok (.putfield 13, 3) := by decide +kernel
theorem dX12_init_13 : decode cX12_init 13 = .ok (.aload_n 0, 1) := by decide +kernel
theorem dX12_init_14 : decode cX12_init 14 = .ok (.sipush 2000, 3) := by decide +kernel
theorem dX12_init_17 : decode cX12_init 17 = .ok (.newarray .byte, 2) := by decide +kernel
theorem dX12_init_19 : decode cX12_init 19 = .ok (.putfield 17, 3) := by decide +kernel
theorem dX12_init_22 : decode cX12_init 22 = .ok (.aload_n 0, 1) := by decide +kernel
theorem dX12_init_23 : decode cX12_init 23 = .ok (.sipush 403, 3) := by decide +kernel
theorem dX12_init_26 : decode cX12_init 26 = .ok (.newarray .int, 2) := by decide +kernel
theorem dX12_init_28 : decode cX12_init 28 = .ok (.putfield 20, 3) := by decide +kernel
theorem dX12_init_31 : decode cX12_init 31 = .ok (.aload_n 0, 1) := by decide +kernel
theorem dX12_init_32 : decode cX12_init 32 = .ok (.sipush 403, 3) := by decide +kernel
theorem dX12_init_35 : decode cX12_init 35 = .ok (.newarray .int, 2) := by decide +kernel
theorem dX12_init_37 : decode cX12_init 37 = .ok (.putfield 24, 3) := by decide +kernel
theorem dX12_init_40 : decode cX12_init 40 = .ok (.aload_n 0, 1) := by decide +kernel
theorem dX12_init_41 : decode cX12_init 41 = .ok (.sipush 403, 3) := by decide +kernel
theorem dX12_init_44 : decode cX12_init 44 = .ok (.newarray .int, 2) := by decide +kernel
theorem dX12_init_46 : decode cX12_init 46 = .ok (.putfield 27, 3) := by decide +kernel
theorem dX12_init_49 : decode cX12_init 49 = .ok (.aload_n 0, 1) := by decide +kernel
theorem dX12_init_50 : decode cX12_init 50 = .ok (.sipush 403, 3) := by decide +kernel
theorem dX12_init_53 : decode cX12_init 53 = .ok (.newarray .long, 2) := by decide +kernel
theorem dX12_init_55 : decode cX12_init 55 = .ok (.putfield 30, 3) := by decide +kernel
theorem dX12_init_58 : decode cX12_init 58 = .ok (.aload_n 0, 1) := by decide +kernel
theorem dX12_init_59 : decode cX12_init 59 = .ok (.bipush 17, 2) := by decide +kernel
theorem dX12_init_61 : decode cX12_init 61 = .ok (.newarray .long, 2) := by decide +kernel
theorem dX12_init_63 : decode cX12_init 63 = .ok (.putfield 34, 3) := by decide +kernel
theorem dX12_init_66 : decode cX12_init 66 = .ok (.aload_n 0, 1) := by decide +kernel
theorem dX12_init_67 : decode cX12_init 67 = .ok (.iconst (-1), 1) := by decide +kernel
theorem dX12_init_68 : decode cX12_init 68 = .ok (.putfield 37, 3) := by decide +kernel
theorem dX12_init_71 : decode cX12_init 71 = .ok (.aload_n 0, 1) := by decide +kernel
theorem dX12_init_72 : decode cX12_init 72 = .ok (.bipush 8, 2) := by decide +kernel
theorem dX12_init_74 : decode cX12_init 74 = .ok (.newarray .long, 2) := by decide +kernel
theorem dX12_init_76 : decode cX12_init 76 = .ok (.putfield 40, 3) := by decide +kernel
theorem dX12_init_79 : decode cX12_init 79 = .ok (.aload_n 0, 1) := by decide +kernel
theorem dX12_init_80 : decode cX12_init 80 = .ok (.iconst 2, 1) := by decide +kernel
theorem dX12_init_81 : decode cX12_init 81 = .ok (.newarray .int, 2) := by decide +kernel
theorem dX12_init_83 : decode cX12_init 83 = .ok (.putfield 43, 3) := by decide +kernel
theorem dX12_init_86 : decode cX12_init 86 = .ok (.aload_n 0, 1) := by decide +kernel
theorem dX12_init_87 : decode cX12_init 87 = .ok (.bipush 8, 2) := by decide +kernel
theorem dX12_init_89 : decode cX12_init 89 = .ok (.newarray .int, 2) := by decide +kernel
theorem dX12_init_91 : decode cX12_init 91 = .ok (.putfield 46, 3) := by decide +kernel
theorem dX12_init_94 : decode cX12_init 94 = .ok (.aload_n 0, 1) := by decide +kernel
theorem dX12_init_95 : decode cX12_init 95 = .ok (.bipush 8, 2) := by decide +kernel
theorem dX12_init_97 : decode cX12_init 97 = .ok (.newarray .int, 2) := by decide +kernel
theorem dX12_init_99 : decode cX12_init 99 = .ok (.putfield 49, 3) := by decide +kernel
theorem dX12_init_102 : decode cX12_init 102 = .ok (.aload_n 0, 1) := by decide +kernel
theorem dX12_init_103 : decode cX12_init 103 = .ok (.bipush 16, 2) := by decide +kernel
theorem dX12_init_105 : decode cX12_init 105 = .ok (.newarray .int, 2) := by decide +kernel
theorem dX12_init_107 : decode cX12_init 107 = .ok (.putfield 52, 3) := by decide +kernel
theorem dX12_init_110 : decode cX12_init 110 = .ok (.aload_n 0, 1) := by decide +kernel
theorem dX12_init_111 : decode cX12_init 111 = .ok (.bipush 96, 2) := by decide +kernel
theorem dX12_init_113 : decode cX12_init 113 = .ok (.newarray .int, 2) := by decide +kernel
theorem dX12_init_115 : decode cX12_init 115 = .ok (.putfield 55, 3) := by decide +kernel
theorem dX12_init_118 : decode cX12_init 118 = .ok (.aload_n 0, 1) := by decide +kernel
theorem dX12_init_119 : decode cX12_init 119 = .ok (.bipush 96, 2) := by decide +kernel
theorem dX12_init_121 : decode cX12_init 121 = .ok (.newarray .int, 2) := by decide +kernel
theorem dX12_init_123 : decode cX12_init 123 = .ok (.putfield 58, 3) := by decide +kernel
theorem dX12_init_126 : decode cX12_init 126 = .ok (.aload_n 0, 1) := by decide +kernel
theorem dX12_init_127 : decode cX12_init 127 = .ok (.bipush 96, 2) := by decide +kernel
theorem dX12_init_129 : decode cX12_init 129 = .ok (.newarray .int, 2) := by decide +kernel
theorem dX12_init_131 : decode cX12_init 131 = .ok (.putfield 61, 3) := by decide +kernel
theorem dX12_init_134 : decode cX12_init 134 = .ok (.aload_n 0, 1) := by decide +kernel
theorem dX12_init_135 : decode cX12_init 135 = .ok (.bipush 96, 2) := by decide +kernel
theorem dX12_init_137 : decode cX12_init 137 = .ok (.newarray .int, 2) := by decide +kernel
theorem dX12_init_139 : decode cX12_init 139 = .ok (.putfield 64, 3) := by decide +kernel
theorem dX12_init_142 : decode cX12_init 142 = .ok (.aload_n 0, 1) := by decide +kernel
theorem dX12_init_143 : decode cX12_init 143 = .ok (.bipush 96, 2) := by decide +kernel
theorem dX12_init_145 : decode cX12_init 145 = .ok (.newarray .int, 2) := by decide +kernel
theorem dX12_init_147 : decode cX12_init 147 = .ok (.putfield 67, 3) := by decide +kernel
theorem dX12_init_150 : decode cX12_init 150 = .ok (.aload_n 0, 1) := by decide +kernel
theorem dX12_init_151 : decode cX12_init 151 = .ok (.bipush 16, 2) := by decide +kernel
theorem dX12_init_153 : decode cX12_init 153 = .ok (.newarray .int, 2) := by decide +kernel
theorem dX12_init_155 : decode cX12_init 155 = .ok (.putfield 70, 3) := by decide +kernel
theorem dX12_init_158 : decode cX12_init 158 = .ok (.aload_n 0, 1) := by decide +kernel
theorem dX12_init_159 : decode cX12_init 159 = .ok (.bipush 16, 2) := by decide +kernel
theorem dX12_init_161 : decode cX12_init 161 = .ok (.newarray .int, 2) := by decide +kernel
theorem dX12_init_163 : decode cX12_init 163 = .ok (.putfield 73, 3) := by decide +kernel
theorem dX12_init_166 : decode cX12_init 166 = .ok (.aload_n 0, 1) := by decide +kernel
theorem dX12_init_167 : decode cX12_init 167 = .ok (.bipush 16, 2) := by decide +kernel
theorem dX12_init_169 : decode cX12_init 169 = .ok (.newarray .int, 2) := by decide +kernel
theorem dX12_init_171 : decode cX12_init 171 = .ok (.putfield 76, 3) := by decide +kernel
theorem dX12_init_174 : decode cX12_init 174 = .ok (.aload_n 0, 1) := by decide +kernel
theorem dX12_init_175 : decode cX12_init 175 = .ok (.bipush 32, 2) := by decide +kernel
theorem dX12_init_177 : decode cX12_init 177 = .ok (.newarray .int, 2) := by decide +kernel
theorem dX12_init_179 : decode cX12_init 179 = .ok (.putfield 79, 3) := by decide +kernel
theorem dX12_init_182 : decode cX12_init 182 = .ok (.aload_n 0, 1) := by decide +kernel
theorem dX12_init_183 : decode cX12_init 183 = .ok (.bipush 32, 2) := by decide +kernel
theorem dX12_init_185 : decode cX12_init 185 = .ok (.newarray .int, 2) := by decide +kernel
theorem dX12_init_187 : decode cX12_init 187 = .ok (.putfield 82, 3) := by decide +kernel
theorem dX12_init_190 : decode cX12_init 190 = .ok (.aload_n 0, 1) := by decide +kernel
theorem dX12_init_191 : decode cX12_init 191 = .ok (.bipush 47, 2) := by decide +kernel
theorem dX12_init_193 : decode cX12_init 193 = .ok (.newarray .int, 2) := by decide +kernel
theorem dX12_init_195 : decode cX12_init 195 = .ok (.putfield 85, 3) := by decide +kernel
theorem dX12_init_198 : decode cX12_init 198 = .ok (.aload_n 0, 1) := by decide +kernel
theorem dX12_init_199 : decode cX12_init 199 = .ok (.bipush 47, 2) := by decide +kernel
theorem dX12_init_201 : decode cX12_init 201 = .ok (.newarray .int, 2) := by decide +kernel
theorem dX12_init_203 : decode cX12_init 203 = .ok (.putfield 88, 3) := by decide +kernel
theorem dX12_init_206 : decode cX12_init 206 = .ok (.aload_n 0, 1) := by decide +kernel
theorem dX12_init_207 : decode cX12_init 207 = .ok (.bipush 12, 2) := by decide +kernel
theorem dX12_init_209 : decode cX12_init 209 = .ok (.newarray .int, 2) := by decide +kernel
theorem dX12_init_211 : decode cX12_init 211 = .ok (.putfield 91, 3) := by decide +kernel
theorem dX12_init_214 : decode cX12_init 214 = .ok (.aload_n 0, 1) := by decide +kernel
theorem dX12_init_215 : decode cX12_init 215 = .ok (.bipush 8, 2) := by decide +kernel
theorem dX12_init_217 : decode cX12_init 217 = .ok (.newarray .int, 2) := by decide +kernel
theorem dX12_init_219 : decode cX12_init 219 = .ok (.putfield 94, 3) := by decide +kernel
theorem dX12_init_222 : decode cX12_init 222 = .ok (.aload_n 0, 1) := by decide +kernel
theorem dX12_init_223 : decode cX12_init 223 = .ok (.bipush 8, 2) := by decide +kernel
theorem dX12_init_225 : decode cX12_init 225 = .ok (.newarray .int, 2) := by decide +kernel
theorem dX12_init_227 : decode cX12_init 227 = .ok (.putfield 97, 3) := by decide +kernel
theorem dX12_init_230 : decode cX12_init 230 = .ok (.aload_n 0, 1) := by decide +kernel
theorem dX12_init_231 : decode cX12_init 231 = .ok (.bipush 16, 2) := by decide +kernel
theorem dX12_init_233 : decode cX12_init 233 = .ok (.newarray .int, 2) := by decide +kernel
theorem dX12_init_235 : decode cX12_init 235 = .ok (.putfield 100, 3) := by decide +kernel
theorem dX12_init_238 : decode cX12_init 238 = .ok (.aload_n 0, 1) := by decide +kernel
theorem dX12_init_239 : decode cX12_init 239 = .ok (.bipush 8, 2) := by decide +kernel
theorem dX12_init_241 : decode cX12_init 241 = .ok (.newarray .int, 2) := by decide +kernel
theorem dX12_init_243 : decode cX12_init 243 = .ok (.putfield 103, 3) := by decide +kernel
theorem dX12_init_246 : decode cX12_init 246 = .ok (.aload_n 0, 1) := by decide +kernel
theorem dX12_init_247 : decode cX12_init 247 = .ok (.bipush 8, 2) := by decide +kernel
theorem dX12_init_249 : decode cX12_init 249 = .ok (.newarray .int, 2) := by decide +kernel
theorem dX12_init_251 : decode cX12_init 251 = .ok (.putfield 106, 3) := by decide +kernel
theorem dX12_init_254 : decode cX12_init 254 = .ok (.aload_n 0, 1) := by decide +kernel
theorem dX12_init_255 : decode cX12_init 255 = .ok (.bipush 8, 2) := by decide +kernel
theorem dX12_init_257 : decode cX12_init 257 = .ok (.newarray .int, 2) := by decide +kernel
theorem dX12_init_259 : decode cX12_init 259 = .ok (.putfield 109, 3) := by decide +kernel
theorem dX12_init_262 : decode cX12_init 262 = .ok (.aload_n 0, 1) := by decide +kernel
theorem dX12_init_263 : decode cX12_init 263 = .ok (.bipush 32, 2) := by decide +kernel
theorem dX12_init_265 : decode cX12_init 265 = .ok (.newarray .int, 2) := by decide +kernel
theorem dX12_init_267 : decode cX12_init 267 = .ok (.putfield 112, 3) := by decide +kernel
theorem dX12_init_270 : decode cX12_init 270 = .ok (.aload_n 0, 1) := by decide +kernel
theorem dX12_init_271 : decode cX12_init 271 = .ok (.bipush 8, 2) := by decide +kernel
theorem dX12_init_273 : decode cX12_init 273 = .ok (.newarray .int, 2) := by decide +kernel
theorem dX12_init_275 : decode cX12_init 275 = .ok (.putfield 115, 3) := by decide +kernel
theorem dX12_init_278 : decode cX12_init 278 = .ok (.aload_n 0, 1) := by decide +kernel
theorem dX12_init_279 : decode cX12_init 279 = .ok (.bipush 8, 2) := by decide +kernel
theorem dX12_init_281 : decode cX12_init 281 = .ok (.newarray .int, 2) := by decide +kernel
theorem dX12_init_283 : decode cX12_init 283 = .ok (.putfield 118, 3) := by decide +kernel
theorem dX12_init_286 : decode cX12_init 286 = .ok (.aload_n 0, 1) := by decide +kernel
theorem dX12_init_287 : decode cX12_init 287 = .ok (.sipush 272, 3) := by decide +kernel
theorem dX12_init_290 : decode cX12_init 290 = .ok (.newarray .int, 2) := by decide +kernel
theorem dX12_init_292 : decode cX12_init 292 = .ok (.putfield 121, 3) := by decide +kernel
theorem dX12_init_295 : decode cX12_init 295 = .ok (.aload_n 0, 1) := by decide +kernel
theorem dX12_init_296 : decode cX12_init 296 = .ok (.sipush 272, 3) := by decide +kernel
theorem dX12_init_299 : decode cX12_init 299 = .ok (.newarray .int, 2) := by decide +kernel
theorem dX12_init_301 : decode cX12_init 301 = .ok (.putfield 124, 3) := by decide +kernel
theorem dX12_init_304 : decode cX12_init 304 = .ok (.aload_n 0, 1) := by decide +kernel
theorem dX12_init_305 : decode cX12_init 305 = .ok (.sipush 272, 3) := by decide +kernel
theorem dX12_init_308 : decode cX12_init 308 = .ok (.newarray .int, 2) := by decide +kernel
theorem dX12_init_310 : decode cX12_init 310 = .ok (.putfield 127, 3) := by decide +kernel
theorem dX12_init_313 : decode cX12_init 313 = .ok (.aload_n 0, 1) := by decide +kernel
theorem dX12_init_314 : decode cX12_init 314 = .ok (.sipush 272, 3) := by decide +kernel
theorem dX12_init_317 : decode cX12_init 317 = .ok (.newarray .int, 2) := by decide +kernel
theorem dX12_init_319 : decode cX12_init 319 = .ok (.putfield 130, 3) := by decide +kernel
theorem dX12_init_322 : decode cX12_init 322 = .ok (.aload_n 0, 1) := by decide +kernel
theorem dX12_init_323 : decode cX12_init 323 = .ok (.sipush 272, 3) := by decide +kernel
theorem dX12_init_326 : decode cX12_init 326 = .ok (.newarray .int, 2) := by decide +kernel
theorem dX12_init_328 : decode cX12_init 328 = .ok (.putfield 133, 3) := by decide +kernel
theorem dX12_init_331 : decode cX12_init 331 = .ok (.aload_n 0, 1) := by decide +kernel
theorem dX12_init_332 : decode cX12_init 332 = .ok (.sipush 272, 3) := by decide +kernel
theorem dX12_init_335 : decode cX12_init 335 = .ok (.newarray .int, 2) := by decide +kernel
theorem dX12_init_337 : decode cX12_init 337 = .ok (.putfield 136, 3) := by decide +kernel
theorem dX12_init_340 : decode cX12_init 340 = .ok (.aload_n 0, 1) := by decide +kernel
theorem dX12_init_341 : decode cX12_init 341 = .ok (.sipush 272, 3) := by decide +kernel
theorem dX12_init_344 : decode cX12_init 344 = .ok (.newarray .int, 2) := by decide +kernel
theorem dX12_init_346 : decode cX12_init 346 = .ok (.putfield 139, 3) := by decide +kernel
theorem dX12_init_349 : decode cX12_init 349 = .ok (.aload_n 0, 1) := by decide +kernel
theorem dX12_init_350 : decode cX12_init 350 = .ok (.sipush 272, 3) := by decide +kernel
theorem dX12_init_353 : decode cX12_init 353 = .ok (.newarray .int, 2) := by decide +kernel
theorem dX12_init_355 : decode cX12_init 355 = .ok (.putfield 142, 3) := by decide +kernel
theorem dX12_init_358 : decode cX12_init 358 = .ok (.aload_n 0, 1) := by decide +kernel
theorem dX12_init_359 : decode cX12_init 359 = .ok (.sipush 272, 3) := by decide +kernel
theorem dX12_init_362 : decode cX12_init 362 = .ok (.newarray .int, 2) := by decide +kernel
theorem dX12_init_364 : decode cX12_init 364 = .ok (.putfield 145, 3) := by decide +kernel
theorem dX12_init_367 : decode cX12_init 367 = .ok (.aload_n 0, 1) := by decide +kernel
theorem dX12_init_368 : decode cX12_init 368 = .ok (.sipush 272, 3) := by decide +kernel
theorem dX12_init_371 : decode cX12_init 371 = .ok (.newarray .int, 2) := by decide +kernel
theorem dX12_init_373 : decode cX12_init 373 = .ok (.putfield 148, 3) := by decide +kernel
theorem dX12_init_376 : decode cX12_init 376 = .ok (.aload_n 0, 1) := by decide +kernel
theorem dX12_init_377 : decode cX12_init 377 = .ok (.sipush 272, 3) := by decide +kernel
theorem dX12_init_380 : decode cX12_init 380 = .ok (.newarray .int, 2) := by decide +kernel
theorem dX12_init_382 : decode cX12_init 382 = .ok (.putfield 151, 3) := by decide +kernel
theorem dX12_init_385 : decode cX12_init 385 = .ok (.aload_n 0, 1) := by decide +kernel
theorem dX12_init_386 : decode cX12_init 386 = .ok (.bipush 8, 2) := by decide +kernel
theorem dX12_init_388 : decode cX12_init 388 = .ok (.newarray .int, 2) := by decide +kernel
theorem dX12_init_390 : decode cX12_init 390 = .ok (.putfield 154, 3) := by decide +kernel
theorem dX12_init_393 : decode cX12_init 393 = .ok (.aload_n 0, 1) := by decide +kernel
theorem dX12_init_394 : decode cX12_init 394 = .ok (.bipush 6, 2) := by decide +kernel
theorem dX12_init_396 : decode cX12_init 396 = .ok (.newarray .int, 2) := by decide +kernel
theorem dX12_init_398 : decode cX12_init 398 = .ok (.putfield 157, 3) := by decide +kernel
theorem dX12_init_401 : decode cX12_init 401 = .ok (.aload_n 0, 1) := by decide +kernel
theorem dX12_init_402 : decode cX12_init 402 = .ok (.sipush 1156, 3) := by decide +kernel
theorem dX12_init_405 : decode cX12_init 405 = .ok (.newarray .int, 2) := by decide +kernel
theorem dX12_init_407 : decode cX12_init 407 = .ok (.putfield 160, 3) := by decide +kernel
theorem dX12_init_410 : decode cX12_init 410 = .ok (.aload_n 0, 1) := by decide +kernel
theorem dX12_init_411 : decode cX12_init 411 = .ok (.iconst 4, 1) := by decide +kernel
theorem dX12_init_412 : decode cX12_init 412 = .ok (.newarray .int, 2) := by decide +kernel
theorem dX12_init_414 : decode cX12_init 414 = .ok (.putfield 163, 3) := by decide +kernel
theorem dX12_init_417 : decode cX12_init 417 = .ok (.aload_n 0, 1) := by decide +kernel
theorem dX12_init_418 : decode cX12_init 418 = .ok (.bipush 34, 2) := by decide +kernel
theorem dX12_init_420 : decode cX12_init 420 = .ok (.newarray .int, 2) := by decide +kernel
theorem dX12_init_422 : decode cX12_init 422 = .ok (.putfield 166, 3) := by decide +kernel
theorem dX12_init_425 : decode cX12_init 425 = .ok (.aload_n 0, 1) := by decide +kernel
theorem dX12_init_426 : decode cX12_init 426 = .ok (.bipush 34, 2) := by decide +kernel
theorem dX12_init_428 : decode cX12_init 428 = .ok (.newarray .int, 2) := by decide +kernel
theorem dX12_init_430 : decode cX12_init 430 = .ok (.putfield 169, 3) := by decide +kernel
theorem dX12_init_433 : decode cX12_init 433 = .ok (.aload_n 0, 1) := by decide +kernel
theorem dX12_init_434 : decode cX12_init 434 = .ok (.bipush 34, 2) := by decide +kernel
theorem dX12_init_436 : decode cX12_init 436 = .ok (.newarray .boolean, 2) := by decide +kernel
theorem dX12_init_438 : decode cX12_init 438 = .ok (.putfield 172, 3) := by decide +kernel
theorem dX12_init_441 : decode cX12_init 441 = .ok (.aload_n 0, 1) := by decide +kernel
theorem dX12_init_442 : decode cX12_init 442 = .ok (.bipush 34, 2) := by decide +kernel
theorem dX12_init_444 : decode cX12_init 444 = .ok (.newarray .boolean, 2) := by decide +kernel
theorem dX12_init_446 : decode cX12_init 446 = .ok (.putfield 176, 3) := by decide +kernel
theorem dX12_init_449 : decode cX12_init 449 = .ok (.aload_n 0, 1) := by decide +kernel
theorem dX12_init_450 : decode cX12_init 450 = .ok (.bipush 34, 2) := by decide +kernel
theorem dX12_init_452 : decode cX12_init 452 = .ok (.newarray .int, 2) := by decide +kernel
theorem dX12_init_454 : decode cX12_init 454 = .ok (.putfield 179, 3) := by decide +kernel
theorem dX12_init_457 : decode cX12_init 457 = .ok (.aload_n 0, 1) := by decide +kernel
theorem dX12_init_458 : decode cX12_init 458 = .ok (.sipush 1880, 3) := by decide +kernel
theorem dX12_init_461 : decode cX12_init 461 = .ok (.newarray .int, 2) := by decide +kernel
theorem dX12_init_463 : decode cX12_init 463 = .ok (.putfield 182, 3) := by decide +kernel
theorem dX12_init_466 : decode cX12_init 466 = .ok (.aload_n 0, 1) := by decide +kernel
theorem dX12_init_467 : decode cX12_init 467 = .ok (.bipush 14, 2) := by decide +kernel
theorem dX12_init_469 : decode cX12_init 469 = .ok (.newarray .int, 2) := by decide +kernel
theorem dX12_init_471 : decode cX12_init 471 = .ok (.putfield 185, 3) := by decide +kernel
theorem dX12_init_474 : decode cX12_init 474 = .ok (.aload_n 0, 1) := by decide +kernel
theorem dX12_init_475 : decode cX12_init 475 = .ok (.iconst 3, 1) := by decide +kernel
theorem dX12_init_476 : decode cX12_init 476 = .ok (.newarray .boolean, 2) := by decide +kernel
theorem dX12_init_478 : decode cX12_init 478 = .ok (.putfield 188, 3) := by decide +kernel
theorem dX12_init_481 : decode cX12_init 481 = .ok (.aload_n 0, 1) := by decide +kernel
theorem dX12_init_482 : decode cX12_init 482 = .ok (.sipush 141, 3) := by decide +kernel
theorem dX12_init_485 : decode cX12_init 485 = .ok (.newarray .int, 2) := by decide +kernel
theorem dX12_init_487 : decode cX12_init 487 = .ok (.putfield 191, 3) := by decide +kernel
theorem dX12_init_490 : decode cX12_init 490 = .ok (.aload_n 0, 1) := by decide +kernel
theorem dX12_init_491 : decode cX12_init 491 = .ok (.iconst 0, 1) := by decide +kernel
theorem dX12_init_492 : decode cX12_init 492 = .ok (.invokevirtual 194, 3) := by decide +kernel
theorem dX12_init_495 : decode cX12_init 495 = .ok (.aload_n 0, 1) := by decide +kernel
theorem dX12_init_496 : decode cX12_init 496 = .ok (.iconst 1, 1) := by decide +kernel
theorem dX12_init_497 : decode cX12_init 497 = .ok (.invokevirtual 194, 3) := by decide +kernel
theorem dX12_init_500 : decode cX12_init 500 = .ok (.aload_n 0, 1) := by decide +kernel
theorem dX12_init_501 : decode cX12_init 501 = .ok (.getfield 34, 3) := by decide +kernel
theorem dX12_init_504 : decode cX12_init 504 = .ok (.iconst 0, 1) := by decide +kernel
theorem dX12_init_505 : decode cX12_init 505 = .ok (.bipush 117, 2) := by decide +kernel
theorem dX12_init_507 : decode cX12_init 507 = .ok (.bipush 110, 2) := by decide +kernel
theorem dX12_init_509 : decode cX12_init 509 = .ok (.bipush 105, 2) := by decide +kernel
theorem dX12_init_511 : decode cX12_init 511 = .ok (.bipush 116, 2) := by decide +kernel
theorem dX12_init_513 : decode cX12_init 513 = .ok (.bipush 115, 2) := by decide +kernel
theorem dX12_init_515 : decode cX12_init 515 = .ok (.iconst 0, 1) := by decide +kernel
theorem dX12_init_516 : decode cX12_init 516 = .ok (.iconst 0, 1) := by decide +kernel
theorem dX12_init_517 : decode cX12_init 517 = .ok (.invokestatic 198, 3) := by decide +kernel
theorem dX12_init_520 : decode cX12_init 520 = .ok (.lastore, 1) := by decide +kernel
theorem dX12_init_521 : decode cX12_init 521 = .ok (.aload_n 0, 1) := by decide +kernel
theorem dX12_init_522 : decode cX12_init 522 = .ok (.getfield 34, 3) := by decide +kernel
theorem dX12_init_525 : decode cX12_init 525 = .ok (.iconst 1, 1) := by decide +kernel
theorem dX12_init_526 : decode cX12_init 526 = .ok (.bipush 98, 2) := by decide +kernel
theorem dX12_init_528 : decode cX12_init 528 = .ok (.bipush 108, 2) := by decide +kernel
theorem dX12_init_530 : decode cX12_init 530 = .ok (.bipush 111, 2) := by decide +kernel
theorem dX12_init_532 : decode cX12_init 532 = .ok (.bipush 99, 2) := by decide +kernel
theorem dX12_init_534 : decode cX12_init 534 = .ok (.bipush 107, 2) := by decide +kernel
theorem dX12_init_536 : decode cX12_init 536 = .ok (.iconst 0, 1) := by decide +kernel
theorem dX12_init_537 : decode cX12_init 537 = .ok (.iconst 0, 1) := by decide +kernel
theorem dX12_init_538 : decode cX12_init 538 = .ok (.invokestatic 198, 3) := by decide +kernel
theorem dX12_init_541 : decode cX12_init 541 = .ok (.lastore, 1) := by decide +kernel
theorem dX12_init_542 : decode cX12_init 542 = .ok (.aload_n 0, 1) := by decide +kernel
theorem dX12_init_543 : decode cX12_init 543 = .ok (.getfield 34, 3) := by decide +kernel
theorem dX12_init_546 : decode cX12_init 546 = .ok (.iconst 2, 1) := by decide +kernel
theorem dX12_init_547 : decode cX12_init 547 = .ok (.bipush 115, 2) := by decide +kernel
theorem dX12_init_549 : decode cX12_init 549 = .ok (.bipush 117, 2) := by decide +kernel
theorem dX12_init_551 : decode cX12_init 551 = .ok (.bipush 109, 2) := by decide +kernel
theorem dX12_init_553 : decode cX12_init 553 = .ok (.bipush 115, 2) := by decide +kernel
theorem dX12_init_555 : decode cX12_init 555 = .ok (.iconst 0, 1) := by decide +kernel
theorem dX12_init_556 : decode cX12_init 556 = .ok (.iconst 0, 1) := by decide +kernel
theorem dX12_init_557 : decode cX12_init 557 = .ok (.iconst 0, 1) := by decide +kernel
theorem dX12_init_558 : decode cX12_init 558 = .ok (.invokestatic 198, 3) := by decide +kernel
theorem dX12_init_561 : decode cX12_init 561 = .ok (.lastore, 1) := by decide +kernel
theorem dX12_init_562 : decode cX12_init 562 = .ok (.aload_n 0, 1) := by decide +kernel
theorem dX12_init_563 : decode cX12_init 563 = .ok (.getfield 34, 3) := by decide +kernel
theorem dX12_init_566 : decode cX12_init 566 = .ok (.iconst 3, 1) := by decide +kernel
theorem dX12_init_567 : decode cX12_init 567 = .ok (.bipush 104, 2) := by decide +kernel
theorem dX12_init_569 : decode cX12_init 569 = .ok (.bipush 97, 2) := by decide +kernel
theorem dX12_init_571 : decode cX12_init 571 = .ok (.bipush 114, 2) := by decide +kernel
theorem dX12_init_573 : decode cX12_init 573 = .ok (.bipush 100, 2) := by decide +kernel
theorem dX12_init_575 : decode cX12_init 575 = .ok (.iconst 0, 1) := by decide +kernel
theorem dX12_init_576 : decode cX12_init 576 = .ok (.iconst 0, 1) := by decide +kernel
theorem dX12_init_577 : decode cX12_init 577 = .ok (.iconst 0, 1) := by decide +kernel
theorem dX12_init_578 : decode cX12_init 578 = .ok (.invokestatic 198, 3) := by decide +kernel
theorem dX12_init_581 : decode cX12_init 581 = .ok (.lastore, 1) := by decide +kernel
theorem dX12_init_582 : decode cX12_init 582 = .ok (.aload_n 0, 1) := by decide +kernel
theorem dX12_init_583 : decode cX12_init 583 = .ok (.getfield 34, 3) := by decide +kernel
theorem dX12_init_586 : decode cX12_init 586 = .ok (.iconst 4, 1) := by decide +kernel
theorem dX12_init_587 : decode cX12_init 587 = .ok (.bipush 99, 2) := by decide +kernel
theorem dX12_init_589 : decode cX12_init 589 = .ok (.bipush 101, 2) := by decide +kernel
theorem dX12_init_591 : decode cX12_init 591 = .ok (.bipush 108, 2) := by decide +kernel
theorem dX12_init_593 : decode cX12_init 593 = .ok (.bipush 108, 2) := by decide +kernel
theorem dX12_init_595 : decode cX12_init 595 = .ok (.bipush 115, 2) := by decide +kernel
theorem dX12_init_597 : decode cX12_init 597 = .ok (.iconst 0, 1) := by decide +kernel
theorem dX12_init_598 : decode cX12_init 598 = .ok (.iconst 0, 1) := by decide +kernel
theorem dX12_init_599 : decode cX12_init 599 = .ok (.invokestatic 198, 3) := by decide +kernel
theorem dX12_init_602 : decode cX12_init 602 = .ok (.lastore, 1) := by decide +kernel
theorem dX12_init_603 : decode cX12_init 603 = .ok (.aload_n 0, 1) := by decide +kernel
theorem dX12_init_604 : decode cX12_init 604 = .ok (.getfield 34, 3) := by decide +kernel
theorem dX12_init_607 : decode cX12_init 607 = .ok (.iconst 5, 1) := by decide +kernel
theorem dX12_init_608 : decode cX12_init 608 = .ok (.bipush 106, 2) := by decide +kernel
theorem dX12_init_610 : decode cX12_init 610 = .ok (.bipush 117, 2) := by decide +kernel
theorem dX12_init_612 : decode cX12_init 612 = .ok (.bipush 109, 2) := by decide +kernel
theorem dX12_init_614 : decode cX12_init 614 = .ok (.bipush 112, 2) := by decide +kernel
theorem dX12_init_616 : decode cX12_init 616 = .ok (.bipush 115, 2) := by decide +kernel
theorem dX12_init_618 : decode cX12_init 618 = .ok (.iconst 0, 1) := by decide +kernel
theorem dX12_init_619 : decode cX12_init 619 = .ok (.iconst 0, 1) := by decide +kernel
theorem dX12_init_620 : decode cX12_init 620 = .ok (.invokestatic 198, 3) := by decide +kernel
theorem dX12_init_623 : decode cX12_init 623 = .ok (.lastore, 1) := by decide +kernel
theorem dX12_init_624 : decode cX12_init 624 = .ok (.aload_n 0, 1) := by decide +kernel
theorem dX12_init_625 : decode cX12_init 625 = .ok (.getfield 34, 3) := by decide +kernel
theorem dX12_init_628 : decode cX12_init 628 = .ok (.bipush 6, 2) := by decide +kernel
theorem dX12_init_630 : decode cX12_init 630 = .ok (.bipush 97, 2) := by decide +kernel
theorem dX12_init_632 : decode cX12_init 632 = .ok (.bipush 116, 2) := by decide +kernel
theorem dX12_init_634 : decode cX12_init 634 = .ok (.iconst 0, 1) := by decide +kernel
theorem dX12_init_635 : decode cX12_init 635 = .ok (.iconst 0, 1) := by decide +kernel
theorem dX12_init_636 : decode cX12_init 636 = .ok (.iconst 0, 1) := by decide +kernel
theorem dX12_init_637 : decode cX12_init 637 = .ok (.iconst 0, 1) := by decide +kernel
theorem dX12_init_638 : decode cX12_init 638 = .ok (.iconst 0, 1) := by decide +kernel
theorem dX12_init_639 : decode cX12_init 639 = .ok (.invokestatic 198, 3) := by decide +kernel
theorem dX12_init_642 : decode cX12_init 642 = .ok (.lastore, 1) := by decide +kernel
theorem dX12_init_643 : decode cX12_init 643 = .ok (.aload_n 0, 1) := by decide +kernel
theorem dX12_init_644 : decode cX12_init 644 = .ok (.getfield 34, 3) := by decide +kernel
theorem dX12_init_647 : decode cX12_init 647 = .ok (.bipush 7, 2) := by decide +kernel
theorem dX12_init_649 : decode cX12_init 649 = .ok (.bipush 103, 2) := by decide +kernel
theorem dX12_init_651 : decode cX12_init 651 = .ok (.bipush 111, 2) := by decide +kernel
theorem dX12_init_653 : decode cX12_init 653 = .ok (.bipush 116, 2) := by decide +kernel
theorem dX12_init_655 : decode cX12_init 655 = .ok (.bipush 111, 2) := by decide +kernel
theorem dX12_init_657 : decode cX12_init 657 = .ok (.iconst 0, 1) := by decide +kernel
theorem dX12_init_658 : decode cX12_init 658 = .ok (.iconst 0, 1) := by decide +kernel
theorem dX12_init_659 : decode cX12_init 659 = .ok (.iconst 0, 1) := by decide +kernel
theorem dX12_init_660 : decode cX12_init 660 = .ok (.invokestatic 198, 3) := by decide +kernel
theorem dX12_init_663 : decode cX12_init 663 = .ok (.lastore, 1) := by decide +kernel
theorem dX12_init_664 : decode cX12_init 664 = .ok (.aload_n 0, 1) := by decide +kernel
theorem dX12_init_665 : decode cX12_init 665 = .ok (.getfield 34, 3) := by decide +kernel
theorem dX12_init_668 : decode cX12_init 668 = .ok (.bipush 8, 2) := by decide +kernel
theorem dX12_init_670 : decode cX12_init 670 = .ok (.bipush 105, 2) := by decide +kernel
theorem dX12_init_672 : decode cX12_init 672 = .ok (.bipush 102, 2) := by decide +kernel
theorem dX12_init_674 : decode cX12_init 674 = .ok (.iconst 0, 1) := by decide +kernel
theorem dX12_init_675 : decode cX12_init 675 = .ok (.iconst 0, 1) := by decide +kernel
theorem dX12_init_676 : decode cX12_init 676 = .ok (.iconst 0, 1) := by decide +kernel
theorem dX12_init_677 : decode cX12_init 677 = .ok (.iconst 0, 1) := by decide +kernel
theorem dX12_init_678 : decode cX12_init 678 = .ok (.iconst 0, 1) := by decide +kernel
theorem dX12_init_679 : decode cX12_init 679 = .ok (.invokestatic 198, 3) := by decide +kernel
theorem dX12_init_682 : decode cX12_init 682 = .ok (.lastore, 1) := by decide +kernel
theorem dX12_init_683 : decode cX12_init 683 = .ok (.aload_n 0, 1) := by decide +kernel
theorem dX12_init_684 : decode cX12_init 684 = .ok (.getfield 34, 3) := by decide +kernel
theorem dX12_init_687 : decode cX12_init 687 = .ok (.bipush 9, 2) := by decide +kernel
theorem dX12_init_689 : decode cX12_init 689 = .ok (.bipush 101, 2) := by decide +kernel
theorem dX12_init_691 : decode cX12_init 691 = .ok (.bipush 108, 2) := by decide +kernel
theorem dX12_init_693 : decode cX12_init 693 = .ok (.bipush 115, 2) := by decide +kernel
theorem dX12_init_695 : decode cX12_init 695 = .ok (.bipush 101, 2) := by decide +kernel
theorem dX12_init_697 : decode cX12_init 697 = .ok (.iconst 0, 1) := by decide +kernel
theorem dX12_init_698 : decode cX12_init 698 = .ok (.iconst 0, 1) := by decide +kernel
theorem dX12_init_699 : decode cX12_init 699 = .ok (.iconst 0, 1) := by decide +kernel
theorem dX12_init_700 : decode cX12_init 700 = .ok (.invokestatic 198, 3) := by decide +kernel
theorem dX12_init_703 : decode cX12_init 703 = .ok (.lastore, 1) := by decide +kernel
theorem dX12_init_704 : decode cX12_init 704 = .ok (.aload_n 0, 1) := by decide +kernel
theorem dX12_init_705 : decode cX12_init 705 = .ok (.getfield 34, 3) := by decide +kernel
theorem dX12_init_708 : decode cX12_init 708 = .ok (.bipush 10, 2) := by decide +kernel
theorem dX12_init_710 : decode cX12_init 710 = .ok (.bipush 115, 2) := by decide +kernel
theorem dX12_init_712 : decode cX12_init 712 = .ok (.bipush 116, 2) := by decide +kernel
theorem dX12_init_714 : decode cX12_init 714 = .ok (.bipush 111, 2) := by decide +kernel
theorem dX12_init_716 : decode cX12_init 716 = .ok (.bipush 112, 2) := by decide +kernel
theorem dX12_init_718 : decode cX12_init 718 = .ok (.iconst 0, 1) := by decide +kernel
theorem dX12_init_719 : decode cX12_init 719 = .ok (.iconst 0, 1) := by decide +kernel
theorem dX12_init_720 : decode cX12_init 720 = .ok (.iconst 0, 1) := by decide +kernel
theorem dX12_init_721 : decode cX12_init 721 = .ok (.invokestatic 198, 3) := by decide +kernel
theorem dX12_init_724 : decode cX12_init 724 = .ok (.lastore, 1) := by decide +kernel
theorem dX12_init_725 : decode cX12_init 725 = .ok (.aload_n 0, 1) := by decide +kernel
theorem dX12_init_726 : decode cX12_init 726 = .ok (.getfield 34, 3) := by decide +kernel
theorem dX12_init_729 : decode cX12_init 729 = .ok (.bipush 11, 2) := by decide +kernel
theorem dX12_init_731 : decode cX12_init 731 = .ok (.bipush 97, 2) := by decide +kernel
theorem dX12_init_733 : decode cX12_init 733 = .ok (.iconst 0, 1) := by decide +kernel
theorem dX12_init_734 : decode cX12_init 734 = .ok (.iconst 0, 1) := by decide +kernel
theorem dX12_init_735 : decode cX12_init 735 = .ok (.iconst 0, 1) := by decide +kernel
theorem dX12_init_736 : decode cX12_init 736 = .ok (.iconst 0, 1) := by decide +kernel
theorem dX12_init_737 : decode cX12_init 737 = .ok (.iconst 0, 1) := by decide +kernel
theorem dX12_init_738 : decode cX12_init 738 = .ok (.iconst 0, 1) := by decide +kernel
theorem dX12_init_739 : decode cX12_init 739 = .ok (.invokestatic 198, 3) := by decide +kernel
theorem dX12_init_742 : decode cX12_init 742 = .ok (.lastore, 1) := by decide +kernel
theorem dX12_init_743 : decode cX12_init 743 = .ok (.aload_n 0, 1) := by decide +kernel
theorem dX12_init_744 : decode cX12_init 744 = .ok (.getfield 34, 3) := by decide +kernel
theorem dX12_init_747 : decode cX12_init 747 = .ok (.bipush 12, 2) := by decide +kernel
theorem dX12_init_749 : decode cX12_init 749 = .ok (.bipush 98, 2) := by decide +kernel
theorem dX12_init_751 : decode cX12_init 751 = .ok (.iconst 0, 1) := by decide +kernel
theorem dX12_init_752 : decode cX12_init 752 = .ok (.iconst 0, 1) := by decide +kernel
theorem dX12_init_753 : decode cX12_init 753 = .ok (.iconst 0, 1) := by decide +kernel
theorem dX12_init_754 : decode cX12_init 754 = .ok (.iconst 0, 1) := by decide +kernel
theorem dX12_init_755 : decode cX12_init 755 = .ok (.iconst 0, 1) := by decide +kernel
theorem dX12_init_756 : decode cX12_init 756 = .ok (.iconst 0, 1) := by decide +kernel
theorem dX12_init_757 : decode cX12_init 757 = .ok (.invokestatic 198, 3) := by decide +kernel
theorem dX12_init_760 : decode cX12_init 760 = .ok (.lastore, 1) := by decide +kernel
theorem dX12_init_761 : decode cX12_init 761 = .ok (.aload_n 0, 1) := by decide +kernel
theorem dX12_init_762 : decode cX12_init 762 = .ok (.getfield 34, 3) := by decide +kernel
theorem dX12_init_765 : decode cX12_init 765 = .ok (.bipush 13, 2) := by decide +kernel
theorem dX12_init_767 : decode cX12_init 767 = .ok (.bipush 99, 2) := by decide +kernel
theorem dX12_init_769 : decode cX12_init 769 = .ok (.iconst 0, 1) := by decide +kernel
theorem dX12_init_770 : decode cX12_init 770 = .ok (.iconst 0, 1) := by decide +kernel
theorem dX12_init_771 : decode cX12_init 771 = .ok (.iconst 0, 1) := by decide +kernel
theorem dX12_init_772 : decode cX12_init 772 = .ok (.iconst 0, 1) := by decide +kernel
theorem dX12_init_773 : decode cX12_init 773 = .ok (.iconst 0, 1) := by decide +kernel
theorem dX12_init_774 : decode cX12_init 774 = .ok (.iconst 0, 1) := by decide +kernel
theorem dX12_init_775 : decode cX12_init 775 = .ok (.invokestatic 198, 3) := by decide +kernel
theorem dX12_init_778 : decode cX12_init 778 = .ok (.lastore, 1) := by decide +kernel
theorem dX12_init_779 : decode cX12_init 779 = .ok (.aload_n 0, 1) := by decide +kernel
theorem dX12_init_780 : decode cX12_init 780 = .ok (.getfield 34, 3) := by decide +kernel
theorem dX12_init_783 : decode cX12_init 783 = .ok (.bipush 14, 2) := by decide +kernel
theorem dX12_init_785 : decode cX12_init 785 = .ok (.bipush 100, 2) := by decide +kernel
theorem dX12_init_787 : decode cX12_init 787 = .ok (.iconst 0, 1) := by decide +kernel
theorem dX12_init_788 : decode cX12_init 788 = .ok (.iconst 0, 1) := by decide +kernel
theorem dX12_init_789 : decode cX12_init 789 = .ok (.iconst 0, 1) := by decide +kernel
theorem dX12_init_790 : decode cX12_init 790 = .ok (.iconst 0, 1) := by decide +kernel
theorem dX12_init_791 : decode cX12_init 791 = .ok (.iconst 0, 1) := by decide +kernel
theorem dX12_init_792 : decode cX12_init 792 = .ok (.iconst 0, 1) := by decide +kernel
theorem dX12_init_793 : decode cX12_init 793 = .ok (.invokestatic 198, 3) := by decide +kernel
theorem dX12_init_796 : decode cX12_init 796 = .ok (.lastore, 1) := by decide +kernel
theorem dX12_init_797 : decode cX12_init 797 = .ok (.aload_n 0, 1) := by decide +kernel
theorem dX12_init_798 : decode cX12_init 798 = .ok (.getfield 34, 3) := by decide +kernel
theorem dX12_init_801 : decode cX12_init 801 = .ok (.bipush 15, 2) := by decide +kernel
theorem dX12_init_803 : decode cX12_init 803 = .ok (.bipush 101, 2) := by decide +kernel
theorem dX12_init_805 : decode cX12_init 805 = .ok (.iconst 0, 1) := by decide +kernel
theorem dX12_init_806 : decode cX12_init 806 = .ok (.iconst 0, 1) := by decide +kernel
theorem dX12_init_807 : decode cX12_init 807 = .ok (.iconst 0, 1) := by decide +kernel
theorem dX12_init_808 : decode cX12_init 808 = .ok (.iconst 0, 1) := by decide +kernel
theorem dX12_init_809 : decode cX12_init 809 = .ok (.iconst 0, 1) := by decide +kernel
theorem dX12_init_810 : decode cX12_init 810 = .ok (.iconst 0, 1) := by decide +kernel
theorem dX12_init_811 : decode cX12_init 811 = .ok (.invokestatic 198, 3) := by decide +kernel
theorem dX12_init_814 : decode cX12_init 814 = .ok (.lastore, 1) := by decide +kernel
theorem dX12_init_815 : decode cX12_init 815 = .ok (.aload_n 0, 1) := by decide +kernel
theorem dX12_init_816 : decode cX12_init 816 = .ok (.getfield 34, 3) := by decide +kernel
theorem dX12_init_819 : decode cX12_init 819 = .ok (.bipush 16, 2) := by decide +kernel
theorem dX12_init_821 : decode cX12_init 821 = .ok (.bipush 102, 2) := by decide +kernel
theorem dX12_init_823 : decode cX12_init 823 = .ok (.iconst 0, 1) := by decide +kernel
theorem dX12_init_824 : decode cX12_init 824 = .ok (.iconst 0, 1) := by decide +kernel
theorem dX12_init_825 : decode cX12_init 825 = .ok (.iconst 0, 1) := by decide +kernel
theorem dX12_init_826 : decode cX12_init 826 = .ok (.iconst 0, 1) := by decide +kernel
theorem dX12_init_827 : decode cX12_init 827 = .ok (.iconst 0, 1) := by decide +kernel
theorem dX12_init_828 : decode cX12_init 828 = .ok (.iconst 0, 1) := by decide +kernel
theorem dX12_init_829 : decode cX12_init 829 = .ok (.invokestatic 198, 3) := by decide +kernel
theorem dX12_init_832 : decode cX12_init 832 = .ok (.lastore, 1) := by decide +kernel
theorem dX12_init_833 : decode cX12_init 833 = .ok (.aload_n 0, 1) := by decide +kernel
theorem dX12_init_834 : decode cX12_init 834 = .ok (.invokevirtual 202, 3) := by decide +kernel
theorem dX12_init_837 : decode cX12_init 837 = .ok (.aload_n 0, 1) := by decide +kernel
theorem dX12_init_838 : decode cX12_init 838 = .ok (.invokevirtual 205, 3) := by decide +kernel
theorem dX12_init_841 : decode cX12_init 841 = .ok (.return_, 1) := by decide +kernel
noncomputable def fX12_init_815 (x0 : Int) (v : V_) : Option (Int × V_) :=
  ck_ (v x0 9 = x0 + 7 ∧ (ty_ (x0 + 7) = 22 ∧ ln_ (x0 + 7) = 17) ∧ x0 + 7 < x0 + 59) (
  bd_ (fX12_letters 102 0 0 0 0 0 0 v) fun q248 =>
  lt_ (up_ q248.2 (x0 + 7) 16 q248.1) fun v249 =>
  ckp_ (Sc_ x0 (x0 + 59) v249) (
  bd_ (fX12_begins x0 v249) fun q250 =>
  ckp_ (Sc_ x0 (x0 + 59) q250.2) (
  bd_ (fX12_keepsRow x0 q250.2) fun q253 =>
  some (0, q253.2))))
noncomputable def fX12_init_761 (x0 : Int) (v : V_) : Option (Int × V_) :=
  ck_ (v x0 9 = x0 + 7 ∧ (ty_ (x0 + 7) = 22 ∧ ln_ (x0 + 7) = 17) ∧ x0 + 7 < x0 + 59) (
  bd_ (fX12_letters 99 0 0 0 0 0 0 v) fun q236 =>
  lt_ (up_ q236.2 (x0 + 7) 13 q236.1) fun v237 =>
  ck_ (v237 x0 9 = x0 + 7 ∧ (ty_ (x0 + 7) = 22 ∧ ln_ (x0 + 7) = 17) ∧ x0 + 7 < x0 + 59) (
  bd_ (fX12_letters 100 0 0 0 0 0 0 v237) fun q240 =>
  lt_ (up_ q240.2 (x0 + 7) 14 q240.1) fun v241 =>
  ck_ (v241 x0 9 = x0 + 7 ∧ (ty_ (x0 + 7) = 22 ∧ ln_ (x0 + 7) = 17) ∧ x0 + 7 < x0 + 59) (
  bd_ (fX12_letters 101 0 0 0 0 0 0 v241) fun q244 =>
  lt_ (up_ q244.2 (x0 + 7) 15 q244.1) fun v245 =>
  fX12_init_815 x0 v245)))
noncomputable def fX12_init_704 (x0 : Int) (v : V_) : Option (Int × V_) :=
  ck_ (v x0 9 = x0 + 7 ∧ (ty_ (x0 + 7) = 22 ∧ ln_ (x0 + 7) = 17) ∧ x0 + 7 < x0 + 59) (
  bd_ (fX12_letters 115 116 111 112 0 0 0 v) fun q224 =>
  lt_ (up_ q224.2 (x0 + 7) 10 q224.1) fun v225 =>
  ck_ (v225 x0 9 = x0 + 7 ∧ (ty_ (x0 + 7) = 22 ∧ ln_ (x0 + 7) = 17) ∧ x0 + 7 < x0 + 59) (
  bd_ (fX12_letters 97 0 0 0 0 0 0 v225) fun q228 =>
  lt_ (up_ q228.2 (x0 + 7) 11 q228.1) fun v229 =>
  ck_ (v229 x0 9 = x0 + 7 ∧ (ty_ (x0 + 7) = 22 ∧ ln_ (x0 + 7) = 17) ∧ x0 + 7 < x0 + 59) (
  bd_ (fX12_letters 98 0 0 0 0 0 0 v229) fun q232 =>
  lt_ (up_ q232.2 (x0 + 7) 12 q232.1) fun v233 =>
  fX12_init_761 x0 v233)))
noncomputable def fX12_init_643 (x0 : Int) (v : V_) : Option (Int × V_) :=
  ck_ (v x0 9 = x0 + 7 ∧ (ty_ (x0 + 7) = 22 ∧ ln_ (x0 + 7) = 17) ∧ x0 + 7 < x0 + 59) (
  bd_ (fX12_letters 103 111 116 111 0 0 0 v) fun q212 =>
  lt_ (up_ q212.2 (x0 + 7) 7 q212.1) fun v213 =>
  ck_ (v213 x0 9 = x0 + 7 ∧ (ty_ (x0 + 7) = 22 ∧ ln_ (x0 + 7) = 17) ∧ x0 + 7 < x0 + 59) (
  bd_ (fX12_letters 105 102 0 0 0 0 0 v213) fun q216 =>
  lt_ (up_ q216.2 (x0 + 7) 8 q216.1) fun v217 =>
  ck_ (v217 x0 9 = x0 + 7 ∧ (ty_ (x0 + 7) = 22 ∧ ln_ (x0 + 7) = 17) ∧ x0 + 7 < x0 + 59) (
  bd_ (fX12_letters 101 108 115 101 0 0 0 v217) fun q220 =>
  lt_ (up_ q220.2 (x0 + 7) 9 q220.1) fun v221 =>
  fX12_init_704 x0 v221)))
noncomputable def fX12_init_582 (x0 : Int) (v : V_) : Option (Int × V_) :=
  ck_ (v x0 9 = x0 + 7 ∧ (ty_ (x0 + 7) = 22 ∧ ln_ (x0 + 7) = 17) ∧ x0 + 7 < x0 + 59) (
  bd_ (fX12_letters 99 101 108 108 115 0 0 v) fun q200 =>
  lt_ (up_ q200.2 (x0 + 7) 4 q200.1) fun v201 =>
  ck_ (v201 x0 9 = x0 + 7 ∧ (ty_ (x0 + 7) = 22 ∧ ln_ (x0 + 7) = 17) ∧ x0 + 7 < x0 + 59) (
  bd_ (fX12_letters 106 117 109 112 115 0 0 v201) fun q204 =>
  lt_ (up_ q204.2 (x0 + 7) 5 q204.1) fun v205 =>
  ck_ (v205 x0 9 = x0 + 7 ∧ (ty_ (x0 + 7) = 22 ∧ ln_ (x0 + 7) = 17) ∧ x0 + 7 < x0 + 59) (
  bd_ (fX12_letters 97 116 0 0 0 0 0 v205) fun q208 =>
  lt_ (up_ q208.2 (x0 + 7) 6 q208.1) fun v209 =>
  fX12_init_643 x0 v209)))
noncomputable def fX12_init_521 (x0 : Int) (v : V_) : Option (Int × V_) :=
  ck_ (v x0 9 = x0 + 7 ∧ (ty_ (x0 + 7) = 22 ∧ ln_ (x0 + 7) = 17) ∧ x0 + 7 < x0 + 59) (
  bd_ (fX12_letters 98 108 111 99 107 0 0 v) fun q188 =>
  lt_ (up_ q188.2 (x0 + 7) 1 q188.1) fun v189 =>
  ck_ (v189 x0 9 = x0 + 7 ∧ (ty_ (x0 + 7) = 22 ∧ ln_ (x0 + 7) = 17) ∧ x0 + 7 < x0 + 59) (
  bd_ (fX12_letters 115 117 109 115 0 0 0 v189) fun q192 =>
  lt_ (up_ q192.2 (x0 + 7) 2 q192.1) fun v193 =>
  ck_ (v193 x0 9 = x0 + 7 ∧ (ty_ (x0 + 7) = 22 ∧ ln_ (x0 + 7) = 17) ∧ x0 + 7 < x0 + 59) (
  bd_ (fX12_letters 104 97 114 100 0 0 0 v193) fun q196 =>
  lt_ (up_ q196.2 (x0 + 7) 3 q196.1) fun v197 =>
  fX12_init_582 x0 v197)))
noncomputable def fX12_init_457 (x0 : Int) (v : V_) : Option (Int × V_) :=
  ck_ (ty_ (x0 + 55) = 20 ∧ ln_ (x0 + 55) = 1880) (
  lt_ (up_ (zr_ v (x0 + 55)) x0 78 (x0 + 55)) fun v166 =>
  ck_ (ty_ (x0 + 56) = 20 ∧ ln_ (x0 + 56) = 14) (
  lt_ (up_ (zr_ v166 (x0 + 56)) x0 79 (x0 + 56)) fun v169 =>
  ck_ (ty_ (x0 + 57) = 23 ∧ ln_ (x0 + 57) = 3) (
  lt_ (up_ (zr_ v169 (x0 + 57)) x0 80 (x0 + 57)) fun v172 =>
  ck_ (ty_ (x0 + 58) = 20 ∧ ln_ (x0 + 58) = 141) (
  lt_ (up_ (zr_ v172 (x0 + 58)) x0 81 (x0 + 58)) fun v175 =>
  ckp_ (Sc_ x0 (x0 + 59) v175) (
  bd_ (fX12_plain x0 0 v175) fun q176 =>
  ckp_ (Sc_ x0 (x0 + 59) q176.2) (
  bd_ (fX12_plain x0 1 q176.2) fun q179 =>
  ck_ (q179.2 x0 9 = x0 + 7 ∧ (ty_ (x0 + 7) = 22 ∧ ln_ (x0 + 7) = 17) ∧ x0 + 7 < x0 + 59) (
  bd_ (fX12_letters 117 110 105 116 115 0 0 q179.2) fun q184 =>
  lt_ (up_ q184.2 (x0 + 7) 0 q184.1) fun v185 =>
  fX12_init_521 x0 v185)))))))
noncomputable def fX12_init_401 (x0 : Int) (v : V_) : Option (Int × V_) :=
  ck_ (ty_ (x0 + 48) = 20 ∧ ln_ (x0 + 48) = 1156) (
  lt_ (up_ (zr_ v (x0 + 48)) x0 67 (x0 + 48)) fun v145 =>
  ck_ (ty_ (x0 + 49) = 20 ∧ ln_ (x0 + 49) = 4) (
  lt_ (up_ (zr_ v145 (x0 + 49)) x0 68 (x0 + 49)) fun v148 =>
  ck_ (ty_ (x0 + 50) = 20 ∧ ln_ (x0 + 50) = 34) (
  lt_ (up_ (zr_ v148 (x0 + 50)) x0 70 (x0 + 50)) fun v151 =>
  ck_ (ty_ (x0 + 51) = 20 ∧ ln_ (x0 + 51) = 34) (
  lt_ (up_ (zr_ v151 (x0 + 51)) x0 71 (x0 + 51)) fun v154 =>
  ck_ (ty_ (x0 + 52) = 23 ∧ ln_ (x0 + 52) = 34) (
  lt_ (up_ (zr_ v154 (x0 + 52)) x0 72 (x0 + 52)) fun v157 =>
  ck_ (ty_ (x0 + 53) = 23 ∧ ln_ (x0 + 53) = 34) (
  lt_ (up_ (zr_ v157 (x0 + 53)) x0 73 (x0 + 53)) fun v160 =>
  ck_ (ty_ (x0 + 54) = 20 ∧ ln_ (x0 + 54) = 34) (
  lt_ (up_ (zr_ v160 (x0 + 54)) x0 74 (x0 + 54)) fun v163 =>
  fX12_init_457 x0 v163)))))))
noncomputable def fX12_init_340 (x0 : Int) (v : V_) : Option (Int × V_) :=
  ck_ (ty_ (x0 + 41) = 20 ∧ ln_ (x0 + 41) = 272) (
  lt_ (up_ (zr_ v (x0 + 41)) x0 60 (x0 + 41)) fun v124 =>
  ck_ (ty_ (x0 + 42) = 20 ∧ ln_ (x0 + 42) = 272) (
  lt_ (up_ (zr_ v124 (x0 + 42)) x0 61 (x0 + 42)) fun v127 =>
  ck_ (ty_ (x0 + 43) = 20 ∧ ln_ (x0 + 43) = 272) (
  lt_ (up_ (zr_ v127 (x0 + 43)) x0 62 (x0 + 43)) fun v130 =>
  ck_ (ty_ (x0 + 44) = 20 ∧ ln_ (x0 + 44) = 272) (
  lt_ (up_ (zr_ v130 (x0 + 44)) x0 63 (x0 + 44)) fun v133 =>
  ck_ (ty_ (x0 + 45) = 20 ∧ ln_ (x0 + 45) = 272) (
  lt_ (up_ (zr_ v133 (x0 + 45)) x0 64 (x0 + 45)) fun v136 =>
  ck_ (ty_ (x0 + 46) = 20 ∧ ln_ (x0 + 46) = 8) (
  lt_ (up_ (zr_ v136 (x0 + 46)) x0 65 (x0 + 46)) fun v139 =>
  ck_ (ty_ (x0 + 47) = 20 ∧ ln_ (x0 + 47) = 6) (
  lt_ (up_ (zr_ v139 (x0 + 47)) x0 66 (x0 + 47)) fun v142 =>
  fX12_init_401 x0 v142)))))))
noncomputable def fX12_init_278 (x0 : Int) (v : V_) : Option (Int × V_) :=
  ck_ (ty_ (x0 + 34) = 20 ∧ ln_ (x0 + 34) = 8) (
  lt_ (up_ (zr_ v (x0 + 34)) x0 53 (x0 + 34)) fun v103 =>
  ck_ (ty_ (x0 + 35) = 20 ∧ ln_ (x0 + 35) = 272) (
  lt_ (up_ (zr_ v103 (x0 + 35)) x0 54 (x0 + 35)) fun v106 =>
  ck_ (ty_ (x0 + 36) = 20 ∧ ln_ (x0 + 36) = 272) (
  lt_ (up_ (zr_ v106 (x0 + 36)) x0 55 (x0 + 36)) fun v109 =>
  ck_ (ty_ (x0 + 37) = 20 ∧ ln_ (x0 + 37) = 272) (
  lt_ (up_ (zr_ v109 (x0 + 37)) x0 56 (x0 + 37)) fun v112 =>
  ck_ (ty_ (x0 + 38) = 20 ∧ ln_ (x0 + 38) = 272) (
  lt_ (up_ (zr_ v112 (x0 + 38)) x0 57 (x0 + 38)) fun v115 =>
  ck_ (ty_ (x0 + 39) = 20 ∧ ln_ (x0 + 39) = 272) (
  lt_ (up_ (zr_ v115 (x0 + 39)) x0 58 (x0 + 39)) fun v118 =>
  ck_ (ty_ (x0 + 40) = 20 ∧ ln_ (x0 + 40) = 272) (
  lt_ (up_ (zr_ v118 (x0 + 40)) x0 59 (x0 + 40)) fun v121 =>
  fX12_init_340 x0 v121)))))))
noncomputable def fX12_init_222 (x0 : Int) (v : V_) : Option (Int × V_) :=
  ck_ (ty_ (x0 + 27) = 20 ∧ ln_ (x0 + 27) = 8) (
  lt_ (up_ (zr_ v (x0 + 27)) x0 43 (x0 + 27)) fun v82 =>
  ck_ (ty_ (x0 + 28) = 20 ∧ ln_ (x0 + 28) = 16) (
  lt_ (up_ (zr_ v82 (x0 + 28)) x0 44 (x0 + 28)) fun v85 =>
  ck_ (ty_ (x0 + 29) = 20 ∧ ln_ (x0 + 29) = 8) (
  lt_ (up_ (zr_ v85 (x0 + 29)) x0 47 (x0 + 29)) fun v88 =>
  ck_ (ty_ (x0 + 30) = 20 ∧ ln_ (x0 + 30) = 8) (
  lt_ (up_ (zr_ v88 (x0 + 30)) x0 48 (x0 + 30)) fun v91 =>
  ck_ (ty_ (x0 + 31) = 20 ∧ ln_ (x0 + 31) = 8) (
  lt_ (up_ (zr_ v91 (x0 + 31)) x0 49 (x0 + 31)) fun v94 =>
  ck_ (ty_ (x0 + 32) = 20 ∧ ln_ (x0 + 32) = 32) (
  lt_ (up_ (zr_ v94 (x0 + 32)) x0 50 (x0 + 32)) fun v97 =>
  ck_ (ty_ (x0 + 33) = 20 ∧ ln_ (x0 + 33) = 8) (
  lt_ (up_ (zr_ v97 (x0 + 33)) x0 51 (x0 + 33)) fun v100 =>
  fX12_init_278 x0 v100)))))))
noncomputable def fX12_init_166 (x0 : Int) (v : V_) : Option (Int × V_) :=
  ck_ (ty_ (x0 + 20) = 20 ∧ ln_ (x0 + 20) = 16) (
  lt_ (up_ (zr_ v (x0 + 20)) x0 33 (x0 + 20)) fun v61 =>
  ck_ (ty_ (x0 + 21) = 20 ∧ ln_ (x0 + 21) = 32) (
  lt_ (up_ (zr_ v61 (x0 + 21)) x0 34 (x0 + 21)) fun v64 =>
  ck_ (ty_ (x0 + 22) = 20 ∧ ln_ (x0 + 22) = 32) (
  lt_ (up_ (zr_ v64 (x0 + 22)) x0 35 (x0 + 22)) fun v67 =>
  ck_ (ty_ (x0 + 23) = 20 ∧ ln_ (x0 + 23) = 47) (
  lt_ (up_ (zr_ v67 (x0 + 23)) x0 36 (x0 + 23)) fun v70 =>
  ck_ (ty_ (x0 + 24) = 20 ∧ ln_ (x0 + 24) = 47) (
  lt_ (up_ (zr_ v70 (x0 + 24)) x0 37 (x0 + 24)) fun v73 =>
  ck_ (ty_ (x0 + 25) = 20 ∧ ln_ (x0 + 25) = 12) (
  lt_ (up_ (zr_ v73 (x0 + 25)) x0 38 (x0 + 25)) fun v76 =>
  ck_ (ty_ (x0 + 26) = 20 ∧ ln_ (x0 + 26) = 8) (
  lt_ (up_ (zr_ v76 (x0 + 26)) x0 39 (x0 + 26)) fun v79 =>
  fX12_init_222 x0 v79)))))))
noncomputable def fX12_init_110 (x0 : Int) (v : V_) : Option (Int × V_) :=
  ck_ (ty_ (x0 + 13) = 20 ∧ ln_ (x0 + 13) = 96) (
  lt_ (up_ (zr_ v (x0 + 13)) x0 26 (x0 + 13)) fun v40 =>
  ck_ (ty_ (x0 + 14) = 20 ∧ ln_ (x0 + 14) = 96) (
  lt_ (up_ (zr_ v40 (x0 + 14)) x0 27 (x0 + 14)) fun v43 =>
  ck_ (ty_ (x0 + 15) = 20 ∧ ln_ (x0 + 15) = 96) (
  lt_ (up_ (zr_ v43 (x0 + 15)) x0 28 (x0 + 15)) fun v46 =>
  ck_ (ty_ (x0 + 16) = 20 ∧ ln_ (x0 + 16) = 96) (
  lt_ (up_ (zr_ v46 (x0 + 16)) x0 29 (x0 + 16)) fun v49 =>
  ck_ (ty_ (x0 + 17) = 20 ∧ ln_ (x0 + 17) = 96) (
  lt_ (up_ (zr_ v49 (x0 + 17)) x0 30 (x0 + 17)) fun v52 =>
  ck_ (ty_ (x0 + 18) = 20 ∧ ln_ (x0 + 18) = 16) (
  lt_ (up_ (zr_ v52 (x0 + 18)) x0 31 (x0 + 18)) fun v55 =>
  ck_ (ty_ (x0 + 19) = 20 ∧ ln_ (x0 + 19) = 16) (
  lt_ (up_ (zr_ v55 (x0 + 19)) x0 32 (x0 + 19)) fun v58 =>
  fX12_init_166 x0 v58)))))))
noncomputable def fX12_init_58 (x0 : Int) (v : V_) : Option (Int × V_) :=
  ck_ (ty_ (x0 + 7) = 22 ∧ ln_ (x0 + 7) = 17) (
  lt_ (up_ (zr_ v (x0 + 7)) x0 9 (x0 + 7)) fun v21 =>
  lt_ (up_ v21 x0 17 (-1)) fun v22 =>
  ck_ (ty_ (x0 + 8) = 22 ∧ ln_ (x0 + 8) = 8) (
  lt_ (up_ (zr_ v22 (x0 + 8)) x0 21 (x0 + 8)) fun v25 =>
  ck_ (ty_ (x0 + 9) = 20 ∧ ln_ (x0 + 9) = 2) (
  lt_ (up_ (zr_ v25 (x0 + 9)) x0 22 (x0 + 9)) fun v28 =>
  ck_ (ty_ (x0 + 10) = 20 ∧ ln_ (x0 + 10) = 8) (
  lt_ (up_ (zr_ v28 (x0 + 10)) x0 23 (x0 + 10)) fun v31 =>
  ck_ (ty_ (x0 + 11) = 20 ∧ ln_ (x0 + 11) = 8) (
  lt_ (up_ (zr_ v31 (x0 + 11)) x0 24 (x0 + 11)) fun v34 =>
  ck_ (ty_ (x0 + 12) = 20 ∧ ln_ (x0 + 12) = 16) (
  lt_ (up_ (zr_ v34 (x0 + 12)) x0 25 (x0 + 12)) fun v37 =>
  fX12_init_110 x0 v37))))))
noncomputable def fX12_init (x0 : Int) (v : V_) : Option (Int × V_) :=
  ck_ (ty_ (x0 + 1) = 21 ∧ ln_ (x0 + 1) = 2000) (
  lt_ (up_ (zr_ v (x0 + 1)) x0 1 (x0 + 1)) fun v3 =>
  ck_ (ty_ (x0 + 2) = 21 ∧ ln_ (x0 + 2) = 2000) (
  lt_ (up_ (zr_ v3 (x0 + 2)) x0 3 (x0 + 2)) fun v6 =>
  ck_ (ty_ (x0 + 3) = 20 ∧ ln_ (x0 + 3) = 403) (
  lt_ (up_ (zr_ v6 (x0 + 3)) x0 5 (x0 + 3)) fun v9 =>
  ck_ (ty_ (x0 + 4) = 20 ∧ ln_ (x0 + 4) = 403) (
  lt_ (up_ (zr_ v9 (x0 + 4)) x0 6 (x0 + 4)) fun v12 =>
  ck_ (ty_ (x0 + 5) = 20 ∧ ln_ (x0 + 5) = 403) (
  lt_ (up_ (zr_ v12 (x0 + 5)) x0 7 (x0 + 5)) fun v15 =>
  ck_ (ty_ (x0 + 6) = 22 ∧ ln_ (x0 + 6) = 403) (
  lt_ (up_ (zr_ v15 (x0 + 6)) x0 8 (x0 + 6)) fun v18 =>
  fX12_init_58 x0 v18))))))
section
variable {E : En_} {p : Program} {l : Launch} {e : Env} {s : State} {m : MethodId} {args : Array Value} {below : List Frame} {meth : Method} {c : Code} {aK aV : Nat}
set_option maxHeartbeats 4000000 in
theorem tX12_init_815 (C : MC_ E p s m c cX12_init 1 RX12) (hr : meth.sig.returnType = none) (hlk : meth.locks = false) (hin : meth.name = "<init>") (hA : KA_ s) (hE : ∀ a, ¬ E.2.2.2.2.2 a) {x0 : Int} (T0 : 0 < x0 ∧ ty_ x0 = 12 ∧ ln_ x0 = 0) {out : Int × V_} {v : V_} (h : fX12_init_815 x0 v = some out) : G_ E p l e (rmc_ 2 48 58) s m args below meth c 1 (x0 + 1) (Q_ E below args s (x0 + 1) (x0 + 1 + (58 : Nat)) 9 out.1 out.2) 815 [(0, (2, x0))] [] v (x0 + 59) := by
  rw [fX12_init_815] at h
  refine g_aload_n C (f := 0) dX12_init_815 0 rfl ?_
  obtain ⟨c246, h⟩ := ck_e h
  refine g_getf C (k := 9) (kd := 2) okX12 (by decide) kf_RX12_34 dX12_init_816 ⟨T0.1, by omega⟩ T0.2.1 rfl ?_
  refine g_set C c246.1.symm ?_
  have F247 : 0 < x0 + 7 ∧ ty_ (x0 + 7) = 22 ∧ ln_ (x0 + 7) = 17 := ⟨by omega, c246.2.1⟩
  have _ := c246.2.2
  refine g_bipush C (n := 16) dX12_init_819 (by decide) ?_
  refine g_bipush C (n := 102) dX12_init_821 (by decide) ?_
  refine g_iconst C (n := 0) dX12_init_823 (by decide) ?_
  refine g_iconst C (n := 0) dX12_init_824 (by decide) ?_
  refine g_iconst C (n := 0) dX12_init_825 (by decide) ?_
  refine g_iconst C (n := 0) dX12_init_826 (by decide) ?_
  refine g_iconst C (n := 0) dX12_init_827 (by decide) ?_
  refine g_iconst C (n := 0) dX12_init_828 (by decide) ?_
  obtain ⟨q248, eq248, h⟩ := bd_e h
  refine g_cSk C [(0, 102), (0, 0), (0, 0), (0, 0), (0, 0), (0, 0), (0, 0)] (cX12_letters_ok l (cl_none hE) eq248) km_RX12_198 cs_X12_letters rfl (by decide) rfl rfl (by omega) ⟨by show _ ≤ (58 : Nat); omega, by show _ ≤ 2000 * 58; omega⟩ (Nat.le_of_ble_eq_true rfl) dX12_init_829 ?_
  obtain ⟨v249, ev249, h⟩ := lt_e h
  refine g_last C 17 dX12_init_832 ⟨F247.1, by omega⟩ F247.2.1 F247.2.2 (by decide) v249 ev249 ?_
  refine g_aload_n C (f := 0) dX12_init_833 0 rfl ?_
  obtain ⟨c251, h⟩ := ckp_e h
  obtain ⟨q250, eq250, h⟩ := bd_e h
  refine g_in (D := (fun a => x0 ≤ a ∧ a < x0 + 59)) c251.2 ?_
  have Cq250 : MC_ (E0_ E (fun a => x0 ≤ a ∧ a < x0 + 59)) p s m c cX12_init 1 RX12 := C
  have F252 : (E0_ E (fun a => x0 ≤ a ∧ a < x0 + 59)).2.2.2.2.2 (x0) ∧ ty_ (x0) = 12 ∧ ln_ (x0) = 0 := ⟨⟨by omega, by omega⟩, T0.2⟩
  refine g_cVk Cq250 [] (cX12_begins_ok l c251.1 F252 eq250) okX12 T0.2.1 ⟨T0.1, by omega⟩ km_RX12_202 cv_X12_begins rfl (by decide) rfl rfl (by omega) ⟨by show _ ≤ (58 : Nat); omega, by show _ ≤ 2000 * 58; omega⟩ (Nat.le_of_ble_eq_true rfl) dX12_init_834 ?_
  refine g_out hE ?_
  refine g_aload_n C (f := 0) dX12_init_837 0 rfl ?_
  obtain ⟨c254, h⟩ := ckp_e h
  obtain ⟨q253, eq253, h⟩ := bd_e h
  refine g_in (D := (fun a => x0 ≤ a ∧ a < x0 + 59)) c254.2 ?_
  have Cq253 : MC_ (E0_ E (fun a => x0 ≤ a ∧ a < x0 + 59)) p s m c cX12_init 1 RX12 := C
  have F255 : (E0_ E (fun a => x0 ≤ a ∧ a < x0 + 59)).2.2.2.2.2 (x0) ∧ ty_ (x0) = 12 ∧ ln_ (x0) = 0 := ⟨⟨by omega, by omega⟩, T0.2⟩
  refine g_cVk Cq253 [] (cX12_keepsRow_ok l c254.1 F255 eq253) okX12 T0.2.1 ⟨T0.1, by omega⟩ km_RX12_205 cv_X12_keepsRow rfl (by decide) rfl rfl (by omega) ⟨by show _ ≤ (58 : Nat); omega, by show _ ≤ 2000 * 58; omega⟩ (Nat.le_of_ble_eq_true rfl) dX12_init_838 ?_
  refine g_out hE ?_
  refine g_sz (sz' := x0 + 1 + (58 : Nat)) (by omega) ?_
  cases h
  exact g_vret C dX12_init_841 hr hlk
set_option maxHeartbeats 4000000 in
theorem tX12_init_761 (C : MC_ E p s m c cX12_init 1 RX12) (hr : meth.sig.returnType = none) (hlk : meth.locks = false) (hin : meth.name = "<init>") (hA : KA_ s) (hE : ∀ a, ¬ E.2.2.2.2.2 a) {x0 : Int} (T0 : 0 < x0 ∧ ty_ x0 = 12 ∧ ln_ x0 = 0) {out : Int × V_} {v : V_} (h : fX12_init_761 x0 v = some out) : G_ E p l e (rmc_ 2 48 58) s m args below meth c 1 (x0 + 1) (Q_ E below args s (x0 + 1) (x0 + 1 + (58 : Nat)) 9 out.1 out.2) 761 [(0, (2, x0))] [] v (x0 + 59) := by
  rw [fX12_init_761] at h
  refine g_aload_n C (f := 0) dX12_init_761 0 rfl ?_
  obtain ⟨c234, h⟩ := ck_e h
  refine g_getf C (k := 9) (kd := 2) okX12 (by decide) kf_RX12_34 dX12_init_762 ⟨T0.1, by omega⟩ T0.2.1 rfl ?_
  refine g_set C c234.1.symm ?_
  have F235 : 0 < x0 + 7 ∧ ty_ (x0 + 7) = 22 ∧ ln_ (x0 + 7) = 17 := ⟨by omega, c234.2.1⟩
  have _ := c234.2.2
  refine g_bipush C (n := 13) dX12_init_765 (by decide) ?_
  refine g_bipush C (n := 99) dX12_init_767 (by decide) ?_
  refine g_iconst C (n := 0) dX12_init_769 (by decide) ?_
  refine g_iconst C (n := 0) dX12_init_770 (by decide) ?_
  refine g_iconst C (n := 0) dX12_init_771 (by decide) ?_
  refine g_iconst C (n := 0) dX12_init_772 (by decide) ?_
  refine g_iconst C (n := 0) dX12_init_773 (by decide) ?_
  refine g_iconst C (n := 0) dX12_init_774 (by decide) ?_
  obtain ⟨q236, eq236, h⟩ := bd_e h
  refine g_cSk C [(0, 99), (0, 0), (0, 0), (0, 0), (0, 0), (0, 0), (0, 0)] (cX12_letters_ok l (cl_none hE) eq236) km_RX12_198 cs_X12_letters rfl (by decide) rfl rfl (by omega) ⟨by show _ ≤ (58 : Nat); omega, by show _ ≤ 2000 * 58; omega⟩ (Nat.le_of_ble_eq_true rfl) dX12_init_775 ?_
  obtain ⟨v237, ev237, h⟩ := lt_e h
  refine g_last C 17 dX12_init_778 ⟨F235.1, by omega⟩ F235.2.1 F235.2.2 (by decide) v237 ev237 ?_
  refine g_aload_n C (f := 0) dX12_init_779 0 rfl ?_
  obtain ⟨c238, h⟩ := ck_e h
  refine g_getf C (k := 9) (kd := 2) okX12 (by decide) kf_RX12_34 dX12_init_780 ⟨T0.1, by omega⟩ T0.2.1 rfl ?_
  refine g_set C c238.1.symm ?_
  have F239 : 0 < x0 + 7 ∧ ty_ (x0 + 7) = 22 ∧ ln_ (x0 + 7) = 17 := ⟨by omega, c238.2.1⟩
  have _ := c238.2.2
  refine g_bipush C (n := 14) dX12_init_783 (by decide) ?_
  refine g_bipush C (n := 100) dX12_init_785 (by decide) ?_
  refine g_iconst C (n := 0) dX12_init_787 (by decide) ?_
  refine g_iconst C (n := 0) dX12_init_788 (by decide) ?_
  refine g_iconst C (n := 0) dX12_init_789 (by decide) ?_
  refine g_iconst C (n := 0) dX12_init_790 (by decide) ?_
  refine g_iconst C (n := 0) dX12_init_791 (by decide) ?_
  refine g_iconst C (n := 0) dX12_init_792 (by decide) ?_
  obtain ⟨q240, eq240, h⟩ := bd_e h
  refine g_cSk C [(0, 100), (0, 0), (0, 0), (0, 0), (0, 0), (0, 0), (0, 0)] (cX12_letters_ok l (cl_none hE) eq240) km_RX12_198 cs_X12_letters rfl (by decide) rfl rfl (by omega) ⟨by show _ ≤ (58 : Nat); omega, by show _ ≤ 2000 * 58; omega⟩ (Nat.le_of_ble_eq_true rfl) dX12_init_793 ?_
  obtain ⟨v241, ev241, h⟩ := lt_e h
  refine g_last C 17 dX12_init_796 ⟨F239.1, by omega⟩ F239.2.1 F239.2.2 (by decide) v241 ev241 ?_
  refine g_aload_n C (f := 0) dX12_init_797 0 rfl ?_
  obtain ⟨c242, h⟩ := ck_e h
  refine g_getf C (k := 9) (kd := 2) okX12 (by decide) kf_RX12_34 dX12_init_798 ⟨T0.1, by omega⟩ T0.2.1 rfl ?_
  refine g_set C c242.1.symm ?_
  have F243 : 0 < x0 + 7 ∧ ty_ (x0 + 7) = 22 ∧ ln_ (x0 + 7) = 17 := ⟨by omega, c242.2.1⟩
  have _ := c242.2.2
  refine g_bipush C (n := 15) dX12_init_801 (by decide) ?_
  refine g_bipush C (n := 101) dX12_init_803 (by decide) ?_
  refine g_iconst C (n := 0) dX12_init_805 (by decide) ?_
  refine g_iconst C (n := 0) dX12_init_806 (by decide) ?_
  refine g_iconst C (n := 0) dX12_init_807 (by decide) ?_
  refine g_iconst C (n := 0) dX12_init_808 (by decide) ?_
  refine g_iconst C (n := 0) dX12_init_809 (by decide) ?_
  refine g_iconst C (n := 0) dX12_init_810 (by decide) ?_
  obtain ⟨q244, eq244, h⟩ := bd_e h
  refine g_cSk C [(0, 101), (0, 0), (0, 0), (0, 0), (0, 0), (0, 0), (0, 0)] (cX12_letters_ok l (cl_none hE) eq244) km_RX12_198 cs_X12_letters rfl (by decide) rfl rfl (by omega) ⟨by show _ ≤ (58 : Nat); omega, by show _ ≤ 2000 * 58; omega⟩ (Nat.le_of_ble_eq_true rfl) dX12_init_811 ?_
  obtain ⟨v245, ev245, h⟩ := lt_e h
  refine g_last C 17 dX12_init_814 ⟨F243.1, by omega⟩ F243.2.1 F243.2.2 (by decide) v245 ev245 ?_
  refine g_sub [0] rfl rfl ?_
  exact tX12_init_815 C hr hlk hin hA hE T0 h
set_option maxHeartbeats 4000000 in
theorem tX12_init_704 (C : MC_ E p s m c cX12_init 1 RX12) (hr : meth.sig.returnType = none) (hlk : meth.locks = false) (hin : meth.name = "<init>") (hA : KA_ s) (hE : ∀ a, ¬ E.2.2.2.2.2 a) {x0 : Int} (T0 : 0 < x0 ∧ ty_ x0 = 12 ∧ ln_ x0 = 0) {out : Int × V_} {v : V_} (h : fX12_init_704 x0 v = some out) : G_ E p l e (rmc_ 2 48 58) s m args below meth c 1 (x0 + 1) (Q_ E below args s (x0 + 1) (x0 + 1 + (58 : Nat)) 9 out.1 out.2) 704 [(0, (2, x0))] [] v (x0 + 59) := by
  rw [fX12_init_704] at h
  refine g_aload_n C (f := 0) dX12_init_704 0 rfl ?_
  obtain ⟨c222, h⟩ := ck_e h
  refine g_getf C (k := 9) (kd := 2) okX12 (by decide) kf_RX12_34 dX12_init_705 ⟨T0.1, by omega⟩ T0.2.1 rfl ?_
  refine g_set C c222.1.symm ?_
  have F223 : 0 < x0 + 7 ∧ ty_ (x0 + 7) = 22 ∧ ln_ (x0 + 7) = 17 := ⟨by omega, c222.2.1⟩
  have _ := c222.2.2
  refine g_bipush C (n := 10) dX12_init_708 (by decide) ?_
  refine g_bipush C (n := 115) dX12_init_710 (by decide) ?_
  refine g_bipush C (n := 116) dX12_init_712 (by decide) ?_
  refine g_bipush C (n := 111) dX12_init_714 (by decide) ?_
  refine g_bipush C (n := 112) dX12_init_716 (by decide) ?_
  refine g_iconst C (n := 0) dX12_init_718 (by decide) ?_
  refine g_iconst C (n := 0) dX12_init_719 (by decide) ?_
  refine g_iconst C (n := 0) dX12_init_720 (by decide) ?_
  obtain ⟨q224, eq224, h⟩ := bd_e h
  refine g_cSk C [(0, 115), (0, 116), (0, 111), (0, 112), (0, 0), (0, 0), (0, 0)] (cX12_letters_ok l (cl_none hE) eq224) km_RX12_198 cs_X12_letters rfl (by decide) rfl rfl (by omega) ⟨by show _ ≤ (58 : Nat); omega, by show _ ≤ 2000 * 58; omega⟩ (Nat.le_of_ble_eq_true rfl) dX12_init_721 ?_
  obtain ⟨v225, ev225, h⟩ := lt_e h
  refine g_last C 17 dX12_init_724 ⟨F223.1, by omega⟩ F223.2.1 F223.2.2 (by decide) v225 ev225 ?_
  refine g_aload_n C (f := 0) dX12_init_725 0 rfl ?_
  obtain ⟨c226, h⟩ := ck_e h
  refine g_getf C (k := 9) (kd := 2) okX12 (by decide) kf_RX12_34 dX12_init_726 ⟨T0.1, by omega⟩ T0.2.1 rfl ?_
  refine g_set C c226.1.symm ?_
  have F227 : 0 < x0 + 7 ∧ ty_ (x0 + 7) = 22 ∧ ln_ (x0 + 7) = 17 := ⟨by omega, c226.2.1⟩
  have _ := c226.2.2
  refine g_bipush C (n := 11) dX12_init_729 (by decide) ?_
  refine g_bipush C (n := 97) dX12_init_731 (by decide) ?_
  refine g_iconst C (n := 0) dX12_init_733 (by decide) ?_
  refine g_iconst C (n := 0) dX12_init_734 (by decide) ?_
  refine g_iconst C (n := 0) dX12_init_735 (by decide) ?_
  refine g_iconst C (n := 0) dX12_init_736 (by decide) ?_
  refine g_iconst C (n := 0) dX12_init_737 (by decide) ?_
  refine g_iconst C (n := 0) dX12_init_738 (by decide) ?_
  obtain ⟨q228, eq228, h⟩ := bd_e h
  refine g_cSk C [(0, 97), (0, 0), (0, 0), (0, 0), (0, 0), (0, 0), (0, 0)] (cX12_letters_ok l (cl_none hE) eq228) km_RX12_198 cs_X12_letters rfl (by decide) rfl rfl (by omega) ⟨by show _ ≤ (58 : Nat); omega, by show _ ≤ 2000 * 58; omega⟩ (Nat.le_of_ble_eq_true rfl) dX12_init_739 ?_
  obtain ⟨v229, ev229, h⟩ := lt_e h
  refine g_last C 17 dX12_init_742 ⟨F227.1, by omega⟩ F227.2.1 F227.2.2 (by decide) v229 ev229 ?_
  refine g_aload_n C (f := 0) dX12_init_743 0 rfl ?_
  obtain ⟨c230, h⟩ := ck_e h
  refine g_getf C (k := 9) (kd := 2) okX12 (by decide) kf_RX12_34 dX12_init_744 ⟨T0.1, by omega⟩ T0.2.1 rfl ?_
  refine g_set C c230.1.symm ?_
  have F231 : 0 < x0 + 7 ∧ ty_ (x0 + 7) = 22 ∧ ln_ (x0 + 7) = 17 := ⟨by omega, c230.2.1⟩
  have _ := c230.2.2
  refine g_bipush C (n := 12) dX12_init_747 (by decide) ?_
  refine g_bipush C (n := 98) dX12_init_749 (by decide) ?_
  refine g_iconst C (n := 0) dX12_init_751 (by decide) ?_
  refine g_iconst C (n := 0) dX12_init_752 (by decide) ?_
  refine g_iconst C (n := 0) dX12_init_753 (by decide) ?_
  refine g_iconst C (n := 0) dX12_init_754 (by decide) ?_
  refine g_iconst C (n := 0) dX12_init_755 (by decide) ?_
  refine g_iconst C (n := 0) dX12_init_756 (by decide) ?_
  obtain ⟨q232, eq232, h⟩ := bd_e h
  refine g_cSk C [(0, 98), (0, 0), (0, 0), (0, 0), (0, 0), (0, 0), (0, 0)] (cX12_letters_ok l (cl_none hE) eq232) km_RX12_198 cs_X12_letters rfl (by decide) rfl rfl (by omega) ⟨by show _ ≤ (58 : Nat); omega, by show _ ≤ 2000 * 58; omega⟩ (Nat.le_of_ble_eq_true rfl) dX12_init_757 ?_
  obtain ⟨v233, ev233, h⟩ := lt_e h
  refine g_last C 17 dX12_init_760 ⟨F231.1, by omega⟩ F231.2.1 F231.2.2 (by decide) v233 ev233 ?_
  refine g_sub [0] rfl rfl ?_
  exact tX12_init_761 C hr hlk hin hA hE T0 h
set_option maxHeartbeats 4000000 in
theorem tX12_init_643 (C : MC_ E p s m c cX12_init 1 RX12) (hr : meth.sig.returnType = none) (hlk : meth.locks = false) (hin : meth.name = "<init>") (hA : KA_ s) (hE : ∀ a, ¬ E.2.2.2.2.2 a) {x0 : Int} (T0 : 0 < x0 ∧ ty_ x0 = 12 ∧ ln_ x0 = 0) {out : Int × V_} {v : V_} (h : fX12_init_643 x0 v = some out) : G_ E p l e (rmc_ 2 48 58) s m args below meth c 1 (x0 + 1) (Q_ E below args s (x0 + 1) (x0 + 1 + (58 : Nat)) 9 out.1 out.2) 643 [(0, (2, x0))] [] v (x0 + 59) := by
  rw [fX12_init_643] at h
  refine g_aload_n C (f := 0) dX12_init_643 0 rfl ?_
  obtain ⟨c210, h⟩ := ck_e h
  refine g_getf C (k := 9) (kd := 2) okX12 (by decide) kf_RX12_34 dX12_init_644 ⟨T0.1, by omega⟩ T0.2.1 rfl ?_
  refine g_set C c210.1.symm ?_
  have F211 : 0 < x0 + 7 ∧ ty_ (x0 + 7) = 22 ∧ ln_ (x0 + 7) = 17 := ⟨by omega, c210.2.1⟩
  have _ := c210.2.2
  refine g_bipush C (n := 7) dX12_init_647 (by decide) ?_
  refine g_bipush C (n := 103) dX12_init_649 (by decide) ?_
  refine g_bipush C (n := 111) dX12_init_651 (by decide) ?_
  refine g_bipush C (n := 116) dX12_init_653 (by decide) ?_
  refine g_bipush C (n := 111) dX12_init_655 (by decide) ?_
  refine g_iconst C (n := 0) dX12_init_657 (by decide) ?_
  refine g_iconst C (n := 0) dX12_init_658 (by decide) ?_
  refine g_iconst C (n := 0) dX12_init_659 (by decide) ?_
  obtain ⟨q212, eq212, h⟩ := bd_e h
  refine g_cSk C [(0, 103), (0, 111), (0, 116), (0, 111), (0, 0), (0, 0), (0, 0)] (cX12_letters_ok l (cl_none hE) eq212) km_RX12_198 cs_X12_letters rfl (by decide) rfl rfl (by omega) ⟨by show _ ≤ (58 : Nat); omega, by show _ ≤ 2000 * 58; omega⟩ (Nat.le_of_ble_eq_true rfl) dX12_init_660 ?_
  obtain ⟨v213, ev213, h⟩ := lt_e h
  refine g_last C 17 dX12_init_663 ⟨F211.1, by omega⟩ F211.2.1 F211.2.2 (by decide) v213 ev213 ?_
  refine g_aload_n C (f := 0) dX12_init_664 0 rfl ?_
  obtain ⟨c214, h⟩ := ck_e h
  refine g_getf C (k := 9) (kd := 2) okX12 (by decide) kf_RX12_34 dX12_init_665 ⟨T0.1, by omega⟩ T0.2.1 rfl ?_
  refine g_set C c214.1.symm ?_
  have F215 : 0 < x0 + 7 ∧ ty_ (x0 + 7) = 22 ∧ ln_ (x0 + 7) = 17 := ⟨by omega, c214.2.1⟩
  have _ := c214.2.2
  refine g_bipush C (n := 8) dX12_init_668 (by decide) ?_
  refine g_bipush C (n := 105) dX12_init_670 (by decide) ?_
  refine g_bipush C (n := 102) dX12_init_672 (by decide) ?_
  refine g_iconst C (n := 0) dX12_init_674 (by decide) ?_
  refine g_iconst C (n := 0) dX12_init_675 (by decide) ?_
  refine g_iconst C (n := 0) dX12_init_676 (by decide) ?_
  refine g_iconst C (n := 0) dX12_init_677 (by decide) ?_
  refine g_iconst C (n := 0) dX12_init_678 (by decide) ?_
  obtain ⟨q216, eq216, h⟩ := bd_e h
  refine g_cSk C [(0, 105), (0, 102), (0, 0), (0, 0), (0, 0), (0, 0), (0, 0)] (cX12_letters_ok l (cl_none hE) eq216) km_RX12_198 cs_X12_letters rfl (by decide) rfl rfl (by omega) ⟨by show _ ≤ (58 : Nat); omega, by show _ ≤ 2000 * 58; omega⟩ (Nat.le_of_ble_eq_true rfl) dX12_init_679 ?_
  obtain ⟨v217, ev217, h⟩ := lt_e h
  refine g_last C 17 dX12_init_682 ⟨F215.1, by omega⟩ F215.2.1 F215.2.2 (by decide) v217 ev217 ?_
  refine g_aload_n C (f := 0) dX12_init_683 0 rfl ?_
  obtain ⟨c218, h⟩ := ck_e h
  refine g_getf C (k := 9) (kd := 2) okX12 (by decide) kf_RX12_34 dX12_init_684 ⟨T0.1, by omega⟩ T0.2.1 rfl ?_
  refine g_set C c218.1.symm ?_
  have F219 : 0 < x0 + 7 ∧ ty_ (x0 + 7) = 22 ∧ ln_ (x0 + 7) = 17 := ⟨by omega, c218.2.1⟩
  have _ := c218.2.2
  refine g_bipush C (n := 9) dX12_init_687 (by decide) ?_
  refine g_bipush C (n := 101) dX12_init_689 (by decide) ?_
  refine g_bipush C (n := 108) dX12_init_691 (by decide) ?_
  refine g_bipush C (n := 115) dX12_init_693 (by decide) ?_
  refine g_bipush C (n := 101) dX12_init_695 (by decide) ?_
  refine g_iconst C (n := 0) dX12_init_697 (by decide) ?_
  refine g_iconst C (n := 0) dX12_init_698 (by decide) ?_
  refine g_iconst C (n := 0) dX12_init_699 (by decide) ?_
  obtain ⟨q220, eq220, h⟩ := bd_e h
  refine g_cSk C [(0, 101), (0, 108), (0, 115), (0, 101), (0, 0), (0, 0), (0, 0)] (cX12_letters_ok l (cl_none hE) eq220) km_RX12_198 cs_X12_letters rfl (by decide) rfl rfl (by omega) ⟨by show _ ≤ (58 : Nat); omega, by show _ ≤ 2000 * 58; omega⟩ (Nat.le_of_ble_eq_true rfl) dX12_init_700 ?_
  obtain ⟨v221, ev221, h⟩ := lt_e h
  refine g_last C 17 dX12_init_703 ⟨F219.1, by omega⟩ F219.2.1 F219.2.2 (by decide) v221 ev221 ?_
  refine g_sub [0] rfl rfl ?_
  exact tX12_init_704 C hr hlk hin hA hE T0 h
set_option maxHeartbeats 4000000 in
theorem tX12_init_582 (C : MC_ E p s m c cX12_init 1 RX12) (hr : meth.sig.returnType = none) (hlk : meth.locks = false) (hin : meth.name = "<init>") (hA : KA_ s) (hE : ∀ a, ¬ E.2.2.2.2.2 a) {x0 : Int} (T0 : 0 < x0 ∧ ty_ x0 = 12 ∧ ln_ x0 = 0) {out : Int × V_} {v : V_} (h : fX12_init_582 x0 v = some out) : G_ E p l e (rmc_ 2 48 58) s m args below meth c 1 (x0 + 1) (Q_ E below args s (x0 + 1) (x0 + 1 + (58 : Nat)) 9 out.1 out.2) 582 [(0, (2, x0))] [] v (x0 + 59) := by
  rw [fX12_init_582] at h
  refine g_aload_n C (f := 0) dX12_init_582 0 rfl ?_
  obtain ⟨c198, h⟩ := ck_e h
  refine g_getf C (k := 9) (kd := 2) okX12 (by decide) kf_RX12_34 dX12_init_583 ⟨T0.1, by omega⟩ T0.2.1 rfl ?_
  refine g_set C c198.1.symm ?_
  have F199 : 0 < x0 + 7 ∧ ty_ (x0 + 7) = 22 ∧ ln_ (x0 + 7) = 17 := ⟨by omega, c198.2.1⟩
  have _ := c198.2.2
  refine g_iconst C (n := 4) dX12_init_586 (by decide) ?_
  refine g_bipush C (n := 99) dX12_init_587 (by decide) ?_
  refine g_bipush C (n := 101) dX12_init_589 (by decide) ?_
  refine g_bipush C (n := 108) dX12_init_591 (by decide) ?_
  refine g_bipush C (n := 108) dX12_init_593 (by decide) ?_
  refine g_bipush C (n := 115) dX12_init_595 (by decide) ?_
  refine g_iconst C (n := 0) dX12_init_597 (by decide) ?_
  refine g_iconst C (n := 0) dX12_init_598 (by decide) ?_
  obtain ⟨q200, eq200, h⟩ := bd_e h
  refine g_cSk C [(0, 99), (0, 101), (0, 108), (0, 108), (0, 115), (0, 0), (0, 0)] (cX12_letters_ok l (cl_none hE) eq200) km_RX12_198 cs_X12_letters rfl (by decide) rfl rfl (by omega) ⟨by show _ ≤ (58 : Nat); omega, by show _ ≤ 2000 * 58; omega⟩ (Nat.le_of_ble_eq_true rfl) dX12_init_599 ?_
  obtain ⟨v201, ev201, h⟩ := lt_e h
  refine g_last C 17 dX12_init_602 ⟨F199.1, by omega⟩ F199.2.1 F199.2.2 (by decide) v201 ev201 ?_
  refine g_aload_n C (f := 0) dX12_init_603 0 rfl ?_
  obtain ⟨c202, h⟩ := ck_e h
  refine g_getf C (k := 9) (kd := 2) okX12 (by decide) kf_RX12_34 dX12_init_604 ⟨T0.1, by omega⟩ T0.2.1 rfl ?_
  refine g_set C c202.1.symm ?_
  have F203 : 0 < x0 + 7 ∧ ty_ (x0 + 7) = 22 ∧ ln_ (x0 + 7) = 17 := ⟨by omega, c202.2.1⟩
  have _ := c202.2.2
  refine g_iconst C (n := 5) dX12_init_607 (by decide) ?_
  refine g_bipush C (n := 106) dX12_init_608 (by decide) ?_
  refine g_bipush C (n := 117) dX12_init_610 (by decide) ?_
  refine g_bipush C (n := 109) dX12_init_612 (by decide) ?_
  refine g_bipush C (n := 112) dX12_init_614 (by decide) ?_
  refine g_bipush C (n := 115) dX12_init_616 (by decide) ?_
  refine g_iconst C (n := 0) dX12_init_618 (by decide) ?_
  refine g_iconst C (n := 0) dX12_init_619 (by decide) ?_
  obtain ⟨q204, eq204, h⟩ := bd_e h
  refine g_cSk C [(0, 106), (0, 117), (0, 109), (0, 112), (0, 115), (0, 0), (0, 0)] (cX12_letters_ok l (cl_none hE) eq204) km_RX12_198 cs_X12_letters rfl (by decide) rfl rfl (by omega) ⟨by show _ ≤ (58 : Nat); omega, by show _ ≤ 2000 * 58; omega⟩ (Nat.le_of_ble_eq_true rfl) dX12_init_620 ?_
  obtain ⟨v205, ev205, h⟩ := lt_e h
  refine g_last C 17 dX12_init_623 ⟨F203.1, by omega⟩ F203.2.1 F203.2.2 (by decide) v205 ev205 ?_
  refine g_aload_n C (f := 0) dX12_init_624 0 rfl ?_
  obtain ⟨c206, h⟩ := ck_e h
  refine g_getf C (k := 9) (kd := 2) okX12 (by decide) kf_RX12_34 dX12_init_625 ⟨T0.1, by omega⟩ T0.2.1 rfl ?_
  refine g_set C c206.1.symm ?_
  have F207 : 0 < x0 + 7 ∧ ty_ (x0 + 7) = 22 ∧ ln_ (x0 + 7) = 17 := ⟨by omega, c206.2.1⟩
  have _ := c206.2.2
  refine g_bipush C (n := 6) dX12_init_628 (by decide) ?_
  refine g_bipush C (n := 97) dX12_init_630 (by decide) ?_
  refine g_bipush C (n := 116) dX12_init_632 (by decide) ?_
  refine g_iconst C (n := 0) dX12_init_634 (by decide) ?_
  refine g_iconst C (n := 0) dX12_init_635 (by decide) ?_
  refine g_iconst C (n := 0) dX12_init_636 (by decide) ?_
  refine g_iconst C (n := 0) dX12_init_637 (by decide) ?_
  refine g_iconst C (n := 0) dX12_init_638 (by decide) ?_
  obtain ⟨q208, eq208, h⟩ := bd_e h
  refine g_cSk C [(0, 97), (0, 116), (0, 0), (0, 0), (0, 0), (0, 0), (0, 0)] (cX12_letters_ok l (cl_none hE) eq208) km_RX12_198 cs_X12_letters rfl (by decide) rfl rfl (by omega) ⟨by show _ ≤ (58 : Nat); omega, by show _ ≤ 2000 * 58; omega⟩ (Nat.le_of_ble_eq_true rfl) dX12_init_639 ?_
  obtain ⟨v209, ev209, h⟩ := lt_e h
  refine g_last C 17 dX12_init_642 ⟨F207.1, by omega⟩ F207.2.1 F207.2.2 (by decide) v209 ev209 ?_
  refine g_sub [0] rfl rfl ?_
  exact tX12_init_643 C hr hlk hin hA hE T0 h
set_option maxHeartbeats 4000000 in
theorem tX12_init_521 (C : MC_ E p s m c cX12_init 1 RX12) (hr : meth.sig.returnType = none) (hlk : meth.locks = false) (hin : meth.name = "<init>") (hA : KA_ s) (hE : ∀ a, ¬ E.2.2.2.2.2 a) {x0 : Int} (T0 : 0 < x0 ∧ ty_ x0 = 12 ∧ ln_ x0 = 0) {out : Int × V_} {v : V_} (h : fX12_init_521 x0 v = some out) : G_ E p l e (rmc_ 2 48 58) s m args below meth c 1 (x0 + 1) (Q_ E below args s (x0 + 1) (x0 + 1 + (58 : Nat)) 9 out.1 out.2) 521 [(0, (2, x0))] [] v (x0 + 59) := by
  rw [fX12_init_521] at h
  refine g_aload_n C (f := 0) dX12_init_521 0 rfl ?_
  obtain ⟨c186, h⟩ := ck_e h
  refine g_getf C (k := 9) (kd := 2) okX12 (by decide) kf_RX12_34 dX12_init_522 ⟨T0.1, by omega⟩ T0.2.1 rfl ?_
  refine g_set C c186.1.symm ?_
  have F187 : 0 < x0 + 7 ∧ ty_ (x0 + 7) = 22 ∧ ln_ (x0 + 7) = 17 := ⟨by omega, c186.2.1⟩
  have _ := c186.2.2
  refine g_iconst C (n := 1) dX12_init_525 (by decide) ?_
  refine g_bipush C (n := 98) dX12_init_526 (by decide) ?_
  refine g_bipush C (n := 108) dX12_init_528 (by decide) ?_
  refine g_bipush C (n := 111) dX12_init_530 (by decide) ?_
  refine g_bipush C (n := 99) dX12_init_532 (by decide) ?_
  refine g_bipush C (n := 107) dX12_init_534 (by decide) ?_
  refine g_iconst C (n := 0) dX12_init_536 (by decide) ?_
  refine g_iconst C (n := 0) dX12_init_537 (by decide) ?_
  obtain ⟨q188, eq188, h⟩ := bd_e h
  refine g_cSk C [(0, 98), (0, 108), (0, 111), (0, 99), (0, 107), (0, 0), (0, 0)] (cX12_letters_ok l (cl_none hE) eq188) km_RX12_198 cs_X12_letters rfl (by decide) rfl rfl (by omega) ⟨by show _ ≤ (58 : Nat); omega, by show _ ≤ 2000 * 58; omega⟩ (Nat.le_of_ble_eq_true rfl) dX12_init_538 ?_
  obtain ⟨v189, ev189, h⟩ := lt_e h
  refine g_last C 17 dX12_init_541 ⟨F187.1, by omega⟩ F187.2.1 F187.2.2 (by decide) v189 ev189 ?_
  refine g_aload_n C (f := 0) dX12_init_542 0 rfl ?_
  obtain ⟨c190, h⟩ := ck_e h
  refine g_getf C (k := 9) (kd := 2) okX12 (by decide) kf_RX12_34 dX12_init_543 ⟨T0.1, by omega⟩ T0.2.1 rfl ?_
  refine g_set C c190.1.symm ?_
  have F191 : 0 < x0 + 7 ∧ ty_ (x0 + 7) = 22 ∧ ln_ (x0 + 7) = 17 := ⟨by omega, c190.2.1⟩
  have _ := c190.2.2
  refine g_iconst C (n := 2) dX12_init_546 (by decide) ?_
  refine g_bipush C (n := 115) dX12_init_547 (by decide) ?_
  refine g_bipush C (n := 117) dX12_init_549 (by decide) ?_
  refine g_bipush C (n := 109) dX12_init_551 (by decide) ?_
  refine g_bipush C (n := 115) dX12_init_553 (by decide) ?_
  refine g_iconst C (n := 0) dX12_init_555 (by decide) ?_
  refine g_iconst C (n := 0) dX12_init_556 (by decide) ?_
  refine g_iconst C (n := 0) dX12_init_557 (by decide) ?_
  obtain ⟨q192, eq192, h⟩ := bd_e h
  refine g_cSk C [(0, 115), (0, 117), (0, 109), (0, 115), (0, 0), (0, 0), (0, 0)] (cX12_letters_ok l (cl_none hE) eq192) km_RX12_198 cs_X12_letters rfl (by decide) rfl rfl (by omega) ⟨by show _ ≤ (58 : Nat); omega, by show _ ≤ 2000 * 58; omega⟩ (Nat.le_of_ble_eq_true rfl) dX12_init_558 ?_
  obtain ⟨v193, ev193, h⟩ := lt_e h
  refine g_last C 17 dX12_init_561 ⟨F191.1, by omega⟩ F191.2.1 F191.2.2 (by decide) v193 ev193 ?_
  refine g_aload_n C (f := 0) dX12_init_562 0 rfl ?_
  obtain ⟨c194, h⟩ := ck_e h
  refine g_getf C (k := 9) (kd := 2) okX12 (by decide) kf_RX12_34 dX12_init_563 ⟨T0.1, by omega⟩ T0.2.1 rfl ?_
  refine g_set C c194.1.symm ?_
  have F195 : 0 < x0 + 7 ∧ ty_ (x0 + 7) = 22 ∧ ln_ (x0 + 7) = 17 := ⟨by omega, c194.2.1⟩
  have _ := c194.2.2
  refine g_iconst C (n := 3) dX12_init_566 (by decide) ?_
  refine g_bipush C (n := 104) dX12_init_567 (by decide) ?_
  refine g_bipush C (n := 97) dX12_init_569 (by decide) ?_
  refine g_bipush C (n := 114) dX12_init_571 (by decide) ?_
  refine g_bipush C (n := 100) dX12_init_573 (by decide) ?_
  refine g_iconst C (n := 0) dX12_init_575 (by decide) ?_
  refine g_iconst C (n := 0) dX12_init_576 (by decide) ?_
  refine g_iconst C (n := 0) dX12_init_577 (by decide) ?_
  obtain ⟨q196, eq196, h⟩ := bd_e h
  refine g_cSk C [(0, 104), (0, 97), (0, 114), (0, 100), (0, 0), (0, 0), (0, 0)] (cX12_letters_ok l (cl_none hE) eq196) km_RX12_198 cs_X12_letters rfl (by decide) rfl rfl (by omega) ⟨by show _ ≤ (58 : Nat); omega, by show _ ≤ 2000 * 58; omega⟩ (Nat.le_of_ble_eq_true rfl) dX12_init_578 ?_
  obtain ⟨v197, ev197, h⟩ := lt_e h
  refine g_last C 17 dX12_init_581 ⟨F195.1, by omega⟩ F195.2.1 F195.2.2 (by decide) v197 ev197 ?_
  refine g_sub [0] rfl rfl ?_
  exact tX12_init_582 C hr hlk hin hA hE T0 h
set_option maxHeartbeats 4000000 in
theorem tX12_init_457 (C : MC_ E p s m c cX12_init 1 RX12) (hr : meth.sig.returnType = none) (hlk : meth.locks = false) (hin : meth.name = "<init>") (hA : KA_ s) (hE : ∀ a, ¬ E.2.2.2.2.2 a) {x0 : Int} (T0 : 0 < x0 ∧ ty_ x0 = 12 ∧ ln_ x0 = 0) {out : Int × V_} {v : V_} (h : fX12_init_457 x0 v = some out) : G_ E p l e (rmc_ 2 48 58) s m args below meth c 1 (x0 + 1) (Q_ E below args s (x0 + 1) (x0 + 1 + (58 : Nat)) 9 out.1 out.2) 457 [(0, (2, x0))] [] v (x0 + 55) := by
  rw [fX12_init_457] at h
  refine g_aload_n C (f := 0) dX12_init_457 0 rfl ?_
  refine g_sipush C (n := 1880) dX12_init_458 (by decide) ?_
  obtain ⟨c164, h⟩ := ck_e h
  refine g_newa C (atype := .int) 20 1880 kac_int hE (Or.inl ⟨rfl, rfl⟩) c164.1 c164.2 rfl (by omega) ⟨by show _ ≤ (58 : Nat); omega, by show _ ≤ 2000 * 58; omega⟩ (by decide) dX12_init_461 ?_
  have F165 : 0 < x0 + 55 ∧ ty_ (x0 + 55) = 20 ∧ ln_ (x0 + 55) = 1880 := ⟨by omega, c164⟩
  refine g_sz (sz' := x0 + 56) (by omega) ?_
  obtain ⟨v166, ev166, h⟩ := lt_e h
  refine g_putF C hin (k := 78) (kd := 2) okX12 (by decide) kf_RX12_182 dX12_init_463 ⟨T0.1, by omega⟩ T0.2.1 rfl rfl nvA hE ?_
  refine g_setv C ev166 ?_
  refine g_aload_n C (f := 0) dX12_init_466 0 rfl ?_
  refine g_bipush C (n := 14) dX12_init_467 (by decide) ?_
  obtain ⟨c167, h⟩ := ck_e h
  refine g_newa C (atype := .int) 20 14 kac_int hE (Or.inl ⟨rfl, rfl⟩) c167.1 c167.2 rfl (by omega) ⟨by show _ ≤ (58 : Nat); omega, by show _ ≤ 2000 * 58; omega⟩ (by decide) dX12_init_469 ?_
  have F168 : 0 < x0 + 56 ∧ ty_ (x0 + 56) = 20 ∧ ln_ (x0 + 56) = 14 := ⟨by omega, c167⟩
  refine g_sz (sz' := x0 + 57) (by omega) ?_
  obtain ⟨v169, ev169, h⟩ := lt_e h
  refine g_putF C hin (k := 79) (kd := 2) okX12 (by decide) kf_RX12_185 dX12_init_471 ⟨T0.1, by omega⟩ T0.2.1 rfl rfl nvA hE ?_
  refine g_setv C ev169 ?_
  refine g_aload_n C (f := 0) dX12_init_474 0 rfl ?_
  refine g_iconst C (n := 3) dX12_init_475 (by decide) ?_
  obtain ⟨c170, h⟩ := ck_e h
  refine g_newa C (atype := .boolean) 23 3 kac_boolean hE (Or.inr (Or.inr (Or.inr ⟨rfl, rfl⟩))) c170.1 c170.2 rfl (by omega) ⟨by show _ ≤ (58 : Nat); omega, by show _ ≤ 2000 * 58; omega⟩ (by decide) dX12_init_476 ?_
  have F171 : 0 < x0 + 57 ∧ ty_ (x0 + 57) = 23 ∧ ln_ (x0 + 57) = 3 := ⟨by omega, c170⟩
  refine g_sz (sz' := x0 + 58) (by omega) ?_
  obtain ⟨v172, ev172, h⟩ := lt_e h
  refine g_putF C hin (k := 80) (kd := 2) okX12 (by decide) kf_RX12_188 dX12_init_478 ⟨T0.1, by omega⟩ T0.2.1 rfl rfl nvA hE ?_
  refine g_setv C ev172 ?_
  refine g_aload_n C (f := 0) dX12_init_481 0 rfl ?_
  refine g_sipush C (n := 141) dX12_init_482 (by decide) ?_
  obtain ⟨c173, h⟩ := ck_e h
  refine g_newa C (atype := .int) 20 141 kac_int hE (Or.inl ⟨rfl, rfl⟩) c173.1 c173.2 rfl (by omega) ⟨by show _ ≤ (58 : Nat); omega, by show _ ≤ 2000 * 58; omega⟩ (by decide) dX12_init_485 ?_
  have F174 : 0 < x0 + 58 ∧ ty_ (x0 + 58) = 20 ∧ ln_ (x0 + 58) = 141 := ⟨by omega, c173⟩
  refine g_sz (sz' := x0 + 59) (by omega) ?_
  obtain ⟨v175, ev175, h⟩ := lt_e h
  refine g_putF C hin (k := 81) (kd := 2) okX12 (by decide) kf_RX12_191 dX12_init_487 ⟨T0.1, by omega⟩ T0.2.1 rfl rfl nvA hE ?_
  refine g_setv C ev175 ?_
  refine g_aload_n C (f := 0) dX12_init_490 0 rfl ?_
  refine g_iconst C (n := 0) dX12_init_491 (by decide) ?_
  obtain ⟨c177, h⟩ := ckp_e h
  obtain ⟨q176, eq176, h⟩ := bd_e h
  refine g_in (D := (fun a => x0 ≤ a ∧ a < x0 + 59)) c177.2 ?_
  have Cq176 : MC_ (E0_ E (fun a => x0 ≤ a ∧ a < x0 + 59)) p s m c cX12_init 1 RX12 := C
  have F178 : (E0_ E (fun a => x0 ≤ a ∧ a < x0 + 59)).2.2.2.2.2 (x0) ∧ ty_ (x0) = 12 ∧ ln_ (x0) = 0 := ⟨⟨by omega, by omega⟩, T0.2⟩
  refine g_cVk Cq176 [(0, 0)] (cX12_plain_ok l c177.1 F178 eq176) okX12 T0.2.1 ⟨T0.1, by omega⟩ km_RX12_194 cv_X12_plain rfl (by decide) rfl rfl (by omega) ⟨by show _ ≤ (58 : Nat); omega, by show _ ≤ 2000 * 58; omega⟩ (Nat.le_of_ble_eq_true rfl) dX12_init_492 ?_
  refine g_out hE ?_
  refine g_aload_n C (f := 0) dX12_init_495 0 rfl ?_
  refine g_iconst C (n := 1) dX12_init_496 (by decide) ?_
  obtain ⟨c180, h⟩ := ckp_e h
  obtain ⟨q179, eq179, h⟩ := bd_e h
  refine g_in (D := (fun a => x0 ≤ a ∧ a < x0 + 59)) c180.2 ?_
  have Cq179 : MC_ (E0_ E (fun a => x0 ≤ a ∧ a < x0 + 59)) p s m c cX12_init 1 RX12 := C
  have F181 : (E0_ E (fun a => x0 ≤ a ∧ a < x0 + 59)).2.2.2.2.2 (x0) ∧ ty_ (x0) = 12 ∧ ln_ (x0) = 0 := ⟨⟨by omega, by omega⟩, T0.2⟩
  refine g_cVk Cq179 [(0, 1)] (cX12_plain_ok l c180.1 F181 eq179) okX12 T0.2.1 ⟨T0.1, by omega⟩ km_RX12_194 cv_X12_plain rfl (by decide) rfl rfl (by omega) ⟨by show _ ≤ (58 : Nat); omega, by show _ ≤ 2000 * 58; omega⟩ (Nat.le_of_ble_eq_true rfl) dX12_init_497 ?_
  refine g_out hE ?_
  refine g_aload_n C (f := 0) dX12_init_500 0 rfl ?_
  obtain ⟨c182, h⟩ := ck_e h
  refine g_getf C (k := 9) (kd := 2) okX12 (by decide) kf_RX12_34 dX12_init_501 ⟨T0.1, by omega⟩ T0.2.1 rfl ?_
  refine g_set C c182.1.symm ?_
  have F183 : 0 < x0 + 7 ∧ ty_ (x0 + 7) = 22 ∧ ln_ (x0 + 7) = 17 := ⟨by omega, c182.2.1⟩
  have _ := c182.2.2
  refine g_iconst C (n := 0) dX12_init_504 (by decide) ?_
  refine g_bipush C (n := 117) dX12_init_505 (by decide) ?_
  refine g_bipush C (n := 110) dX12_init_507 (by decide) ?_
  refine g_bipush C (n := 105) dX12_init_509 (by decide) ?_
  refine g_bipush C (n := 116) dX12_init_511 (by decide) ?_
  refine g_bipush C (n := 115) dX12_init_513 (by decide) ?_
  refine g_iconst C (n := 0) dX12_init_515 (by decide) ?_
  refine g_iconst C (n := 0) dX12_init_516 (by decide) ?_
  obtain ⟨q184, eq184, h⟩ := bd_e h
  refine g_cSk C [(0, 117), (0, 110), (0, 105), (0, 116), (0, 115), (0, 0), (0, 0)] (cX12_letters_ok l (cl_none hE) eq184) km_RX12_198 cs_X12_letters rfl (by decide) rfl rfl (by omega) ⟨by show _ ≤ (58 : Nat); omega, by show _ ≤ 2000 * 58; omega⟩ (Nat.le_of_ble_eq_true rfl) dX12_init_517 ?_
  obtain ⟨v185, ev185, h⟩ := lt_e h
  refine g_last C 17 dX12_init_520 ⟨F183.1, by omega⟩ F183.2.1 F183.2.2 (by decide) v185 ev185 ?_
  refine g_sub [0] rfl rfl ?_
  exact tX12_init_521 C hr hlk hin hA hE T0 h
set_option maxHeartbeats 4000000 in
theorem tX12_init_401 (C : MC_ E p s m c cX12_init 1 RX12) (hr : meth.sig.returnType = none) (hlk : meth.locks = false) (hin : meth.name = "<init>") (hA : KA_ s) (hE : ∀ a, ¬ E.2.2.2.2.2 a) {x0 : Int} (T0 : 0 < x0 ∧ ty_ x0 = 12 ∧ ln_ x0 = 0) {out : Int × V_} {v : V_} (h : fX12_init_401 x0 v = some out) : G_ E p l e (rmc_ 2 48 58) s m args below meth c 1 (x0 + 1) (Q_ E below args s (x0 + 1) (x0 + 1 + (58 : Nat)) 9 out.1 out.2) 401 [(0, (2, x0))] [] v (x0 + 48) := by
  rw [fX12_init_401] at h
  refine g_aload_n C (f := 0) dX12_init_401 0 rfl ?_
  refine g_sipush C (n := 1156) dX12_init_402 (by decide) ?_
  obtain ⟨c143, h⟩ := ck_e h
  refine g_newa C (atype := .int) 20 1156 kac_int hE (Or.inl ⟨rfl, rfl⟩) c143.1 c143.2 rfl (by omega) ⟨by show _ ≤ (58 : Nat); omega, by show _ ≤ 2000 * 58; omega⟩ (by decide) dX12_init_405 ?_
  have F144 : 0 < x0 + 48 ∧ ty_ (x0 + 48) = 20 ∧ ln_ (x0 + 48) = 1156 := ⟨by omega, c143⟩
  refine g_sz (sz' := x0 + 49) (by omega) ?_
  obtain ⟨v145, ev145, h⟩ := lt_e h
  refine g_putF C hin (k := 67) (kd := 2) okX12 (by decide) kf_RX12_160 dX12_init_407 ⟨T0.1, by omega⟩ T0.2.1 rfl rfl nvA hE ?_
  refine g_setv C ev145 ?_
  refine g_aload_n C (f := 0) dX12_init_410 0 rfl ?_
  refine g_iconst C (n := 4) dX12_init_411 (by decide) ?_
  obtain ⟨c146, h⟩ := ck_e h
  refine g_newa C (atype := .int) 20 4 kac_int hE (Or.inl ⟨rfl, rfl⟩) c146.1 c146.2 rfl (by omega) ⟨by show _ ≤ (58 : Nat); omega, by show _ ≤ 2000 * 58; omega⟩ (by decide) dX12_init_412 ?_
  have F147 : 0 < x0 + 49 ∧ ty_ (x0 + 49) = 20 ∧ ln_ (x0 + 49) = 4 := ⟨by omega, c146⟩
  refine g_sz (sz' := x0 + 50) (by omega) ?_
  obtain ⟨v148, ev148, h⟩ := lt_e h
  refine g_putF C hin (k := 68) (kd := 2) okX12 (by decide) kf_RX12_163 dX12_init_414 ⟨T0.1, by omega⟩ T0.2.1 rfl rfl nvA hE ?_
  refine g_setv C ev148 ?_
  refine g_aload_n C (f := 0) dX12_init_417 0 rfl ?_
  refine g_bipush C (n := 34) dX12_init_418 (by decide) ?_
  obtain ⟨c149, h⟩ := ck_e h
  refine g_newa C (atype := .int) 20 34 kac_int hE (Or.inl ⟨rfl, rfl⟩) c149.1 c149.2 rfl (by omega) ⟨by show _ ≤ (58 : Nat); omega, by show _ ≤ 2000 * 58; omega⟩ (by decide) dX12_init_420 ?_
  have F150 : 0 < x0 + 50 ∧ ty_ (x0 + 50) = 20 ∧ ln_ (x0 + 50) = 34 := ⟨by omega, c149⟩
  refine g_sz (sz' := x0 + 51) (by omega) ?_
  obtain ⟨v151, ev151, h⟩ := lt_e h
  refine g_putF C hin (k := 70) (kd := 2) okX12 (by decide) kf_RX12_166 dX12_init_422 ⟨T0.1, by omega⟩ T0.2.1 rfl rfl nvA hE ?_
  refine g_setv C ev151 ?_
  refine g_aload_n C (f := 0) dX12_init_425 0 rfl ?_
  refine g_bipush C (n := 34) dX12_init_426 (by decide) ?_
  obtain ⟨c152, h⟩ := ck_e h
  refine g_newa C (atype := .int) 20 34 kac_int hE (Or.inl ⟨rfl, rfl⟩) c152.1 c152.2 rfl (by omega) ⟨by show _ ≤ (58 : Nat); omega, by show _ ≤ 2000 * 58; omega⟩ (by decide) dX12_init_428 ?_
  have F153 : 0 < x0 + 51 ∧ ty_ (x0 + 51) = 20 ∧ ln_ (x0 + 51) = 34 := ⟨by omega, c152⟩
  refine g_sz (sz' := x0 + 52) (by omega) ?_
  obtain ⟨v154, ev154, h⟩ := lt_e h
  refine g_putF C hin (k := 71) (kd := 2) okX12 (by decide) kf_RX12_169 dX12_init_430 ⟨T0.1, by omega⟩ T0.2.1 rfl rfl nvA hE ?_
  refine g_setv C ev154 ?_
  refine g_aload_n C (f := 0) dX12_init_433 0 rfl ?_
  refine g_bipush C (n := 34) dX12_init_434 (by decide) ?_
  obtain ⟨c155, h⟩ := ck_e h
  refine g_newa C (atype := .boolean) 23 34 kac_boolean hE (Or.inr (Or.inr (Or.inr ⟨rfl, rfl⟩))) c155.1 c155.2 rfl (by omega) ⟨by show _ ≤ (58 : Nat); omega, by show _ ≤ 2000 * 58; omega⟩ (by decide) dX12_init_436 ?_
  have F156 : 0 < x0 + 52 ∧ ty_ (x0 + 52) = 23 ∧ ln_ (x0 + 52) = 34 := ⟨by omega, c155⟩
  refine g_sz (sz' := x0 + 53) (by omega) ?_
  obtain ⟨v157, ev157, h⟩ := lt_e h
  refine g_putF C hin (k := 72) (kd := 2) okX12 (by decide) kf_RX12_172 dX12_init_438 ⟨T0.1, by omega⟩ T0.2.1 rfl rfl nvA hE ?_
  refine g_setv C ev157 ?_
  refine g_aload_n C (f := 0) dX12_init_441 0 rfl ?_
  refine g_bipush C (n := 34) dX12_init_442 (by decide) ?_
  obtain ⟨c158, h⟩ := ck_e h
  refine g_newa C (atype := .boolean) 23 34 kac_boolean hE (Or.inr (Or.inr (Or.inr ⟨rfl, rfl⟩))) c158.1 c158.2 rfl (by omega) ⟨by show _ ≤ (58 : Nat); omega, by show _ ≤ 2000 * 58; omega⟩ (by decide) dX12_init_444 ?_
  have F159 : 0 < x0 + 53 ∧ ty_ (x0 + 53) = 23 ∧ ln_ (x0 + 53) = 34 := ⟨by omega, c158⟩
  refine g_sz (sz' := x0 + 54) (by omega) ?_
  obtain ⟨v160, ev160, h⟩ := lt_e h
  refine g_putF C hin (k := 73) (kd := 2) okX12 (by decide) kf_RX12_176 dX12_init_446 ⟨T0.1, by omega⟩ T0.2.1 rfl rfl nvA hE ?_
  refine g_setv C ev160 ?_
  refine g_aload_n C (f := 0) dX12_init_449 0 rfl ?_
  refine g_bipush C (n := 34) dX12_init_450 (by decide) ?_
  obtain ⟨c161, h⟩ := ck_e h
  refine g_newa C (atype := .int) 20 34 kac_int hE (Or.inl ⟨rfl, rfl⟩) c161.1 c161.2 rfl (by omega) ⟨by show _ ≤ (58 : Nat); omega, by show _ ≤ 2000 * 58; omega⟩ (by decide) dX12_init_452 ?_
  have F162 : 0 < x0 + 54 ∧ ty_ (x0 + 54) = 20 ∧ ln_ (x0 + 54) = 34 := ⟨by omega, c161⟩
  refine g_sz (sz' := x0 + 55) (by omega) ?_
  obtain ⟨v163, ev163, h⟩ := lt_e h
  refine g_putF C hin (k := 74) (kd := 2) okX12 (by decide) kf_RX12_179 dX12_init_454 ⟨T0.1, by omega⟩ T0.2.1 rfl rfl nvA hE ?_
  refine g_setv C ev163 ?_
  refine g_sub [0] rfl rfl ?_
  exact tX12_init_457 C hr hlk hin hA hE T0 h
set_option maxHeartbeats 4000000 in
theorem tX12_init_340 (C : MC_ E p s m c cX12_init 1 RX12) (hr : meth.sig.returnType = none) (hlk : meth.locks = false) (hin : meth.name = "<init>") (hA : KA_ s) (hE : ∀ a, ¬ E.2.2.2.2.2 a) {x0 : Int} (T0 : 0 < x0 ∧ ty_ x0 = 12 ∧ ln_ x0 = 0) {out : Int × V_} {v : V_} (h : fX12_init_340 x0 v = some out) : G_ E p l e (rmc_ 2 48 58) s m args below meth c 1 (x0 + 1) (Q_ E below args s (x0 + 1) (x0 + 1 + (58 : Nat)) 9 out.1 out.2) 340 [(0, (2, x0))] [] v (x0 + 41) := by
  rw [fX12_init_340] at h
  refine g_aload_n C (f := 0) dX12_init_340 0 rfl ?_
  refine g_sipush C (n := 272) dX12_init_341 (by decide) ?_
  obtain ⟨c122, h⟩ := ck_e h
  refine g_newa C (atype := .int) 20 272 kac_int hE (Or.inl ⟨rfl, rfl⟩) c122.1 c122.2 rfl (by omega) ⟨by show _ ≤ (58 : Nat); omega, by show _ ≤ 2000 * 58; omega⟩ (by decide) dX12_init_344 ?_
  have F123 : 0 < x0 + 41 ∧ ty_ (x0 + 41) = 20 ∧ ln_ (x0 + 41) = 272 := ⟨by omega, c122⟩
  refine g_sz (sz' := x0 + 42) (by omega) ?_
  obtain ⟨v124, ev124, h⟩ := lt_e h
  refine g_putF C hin (k := 60) (kd := 2) okX12 (by decide) kf_RX12_139 dX12_init_346 ⟨T0.1, by omega⟩ T0.2.1 rfl rfl nvA hE ?_
  refine g_setv C ev124 ?_
  refine g_aload_n C (f := 0) dX12_init_349 0 rfl ?_
  refine g_sipush C (n := 272) dX12_init_350 (by decide) ?_
  obtain ⟨c125, h⟩ := ck_e h
  refine g_newa C (atype := .int) 20 272 kac_int hE (Or.inl ⟨rfl, rfl⟩) c125.1 c125.2 rfl (by omega) ⟨by show _ ≤ (58 : Nat); omega, by show _ ≤ 2000 * 58; omega⟩ (by decide) dX12_init_353 ?_
  have F126 : 0 < x0 + 42 ∧ ty_ (x0 + 42) = 20 ∧ ln_ (x0 + 42) = 272 := ⟨by omega, c125⟩
  refine g_sz (sz' := x0 + 43) (by omega) ?_
  obtain ⟨v127, ev127, h⟩ := lt_e h
  refine g_putF C hin (k := 61) (kd := 2) okX12 (by decide) kf_RX12_142 dX12_init_355 ⟨T0.1, by omega⟩ T0.2.1 rfl rfl nvA hE ?_
  refine g_setv C ev127 ?_
  refine g_aload_n C (f := 0) dX12_init_358 0 rfl ?_
  refine g_sipush C (n := 272) dX12_init_359 (by decide) ?_
  obtain ⟨c128, h⟩ := ck_e h
  refine g_newa C (atype := .int) 20 272 kac_int hE (Or.inl ⟨rfl, rfl⟩) c128.1 c128.2 rfl (by omega) ⟨by show _ ≤ (58 : Nat); omega, by show _ ≤ 2000 * 58; omega⟩ (by decide) dX12_init_362 ?_
  have F129 : 0 < x0 + 43 ∧ ty_ (x0 + 43) = 20 ∧ ln_ (x0 + 43) = 272 := ⟨by omega, c128⟩
  refine g_sz (sz' := x0 + 44) (by omega) ?_
  obtain ⟨v130, ev130, h⟩ := lt_e h
  refine g_putF C hin (k := 62) (kd := 2) okX12 (by decide) kf_RX12_145 dX12_init_364 ⟨T0.1, by omega⟩ T0.2.1 rfl rfl nvA hE ?_
  refine g_setv C ev130 ?_
  refine g_aload_n C (f := 0) dX12_init_367 0 rfl ?_
  refine g_sipush C (n := 272) dX12_init_368 (by decide) ?_
  obtain ⟨c131, h⟩ := ck_e h
  refine g_newa C (atype := .int) 20 272 kac_int hE (Or.inl ⟨rfl, rfl⟩) c131.1 c131.2 rfl (by omega) ⟨by show _ ≤ (58 : Nat); omega, by show _ ≤ 2000 * 58; omega⟩ (by decide) dX12_init_371 ?_
  have F132 : 0 < x0 + 44 ∧ ty_ (x0 + 44) = 20 ∧ ln_ (x0 + 44) = 272 := ⟨by omega, c131⟩
  refine g_sz (sz' := x0 + 45) (by omega) ?_
  obtain ⟨v133, ev133, h⟩ := lt_e h
  refine g_putF C hin (k := 63) (kd := 2) okX12 (by decide) kf_RX12_148 dX12_init_373 ⟨T0.1, by omega⟩ T0.2.1 rfl rfl nvA hE ?_
  refine g_setv C ev133 ?_
  refine g_aload_n C (f := 0) dX12_init_376 0 rfl ?_
  refine g_sipush C (n := 272) dX12_init_377 (by decide) ?_
  obtain ⟨c134, h⟩ := ck_e h
  refine g_newa C (atype := .int) 20 272 kac_int hE (Or.inl ⟨rfl, rfl⟩) c134.1 c134.2 rfl (by omega) ⟨by show _ ≤ (58 : Nat); omega, by show _ ≤ 2000 * 58; omega⟩ (by decide) dX12_init_380 ?_
  have F135 : 0 < x0 + 45 ∧ ty_ (x0 + 45) = 20 ∧ ln_ (x0 + 45) = 272 := ⟨by omega, c134⟩
  refine g_sz (sz' := x0 + 46) (by omega) ?_
  obtain ⟨v136, ev136, h⟩ := lt_e h
  refine g_putF C hin (k := 64) (kd := 2) okX12 (by decide) kf_RX12_151 dX12_init_382 ⟨T0.1, by omega⟩ T0.2.1 rfl rfl nvA hE ?_
  refine g_setv C ev136 ?_
  refine g_aload_n C (f := 0) dX12_init_385 0 rfl ?_
  refine g_bipush C (n := 8) dX12_init_386 (by decide) ?_
  obtain ⟨c137, h⟩ := ck_e h
  refine g_newa C (atype := .int) 20 8 kac_int hE (Or.inl ⟨rfl, rfl⟩) c137.1 c137.2 rfl (by omega) ⟨by show _ ≤ (58 : Nat); omega, by show _ ≤ 2000 * 58; omega⟩ (by decide) dX12_init_388 ?_
  have F138 : 0 < x0 + 46 ∧ ty_ (x0 + 46) = 20 ∧ ln_ (x0 + 46) = 8 := ⟨by omega, c137⟩
  refine g_sz (sz' := x0 + 47) (by omega) ?_
  obtain ⟨v139, ev139, h⟩ := lt_e h
  refine g_putF C hin (k := 65) (kd := 2) okX12 (by decide) kf_RX12_154 dX12_init_390 ⟨T0.1, by omega⟩ T0.2.1 rfl rfl nvA hE ?_
  refine g_setv C ev139 ?_
  refine g_aload_n C (f := 0) dX12_init_393 0 rfl ?_
  refine g_bipush C (n := 6) dX12_init_394 (by decide) ?_
  obtain ⟨c140, h⟩ := ck_e h
  refine g_newa C (atype := .int) 20 6 kac_int hE (Or.inl ⟨rfl, rfl⟩) c140.1 c140.2 rfl (by omega) ⟨by show _ ≤ (58 : Nat); omega, by show _ ≤ 2000 * 58; omega⟩ (by decide) dX12_init_396 ?_
  have F141 : 0 < x0 + 47 ∧ ty_ (x0 + 47) = 20 ∧ ln_ (x0 + 47) = 6 := ⟨by omega, c140⟩
  refine g_sz (sz' := x0 + 48) (by omega) ?_
  obtain ⟨v142, ev142, h⟩ := lt_e h
  refine g_putF C hin (k := 66) (kd := 2) okX12 (by decide) kf_RX12_157 dX12_init_398 ⟨T0.1, by omega⟩ T0.2.1 rfl rfl nvA hE ?_
  refine g_setv C ev142 ?_
  refine g_sub [0] rfl rfl ?_
  exact tX12_init_401 C hr hlk hin hA hE T0 h
set_option maxHeartbeats 4000000 in
theorem tX12_init_278 (C : MC_ E p s m c cX12_init 1 RX12) (hr : meth.sig.returnType = none) (hlk : meth.locks = false) (hin : meth.name = "<init>") (hA : KA_ s) (hE : ∀ a, ¬ E.2.2.2.2.2 a) {x0 : Int} (T0 : 0 < x0 ∧ ty_ x0 = 12 ∧ ln_ x0 = 0) {out : Int × V_} {v : V_} (h : fX12_init_278 x0 v = some out) : G_ E p l e (rmc_ 2 48 58) s m args below meth c 1 (x0 + 1) (Q_ E below args s (x0 + 1) (x0 + 1 + (58 : Nat)) 9 out.1 out.2) 278 [(0, (2, x0))] [] v (x0 + 34) := by
  rw [fX12_init_278] at h
  refine g_aload_n C (f := 0) dX12_init_278 0 rfl ?_
  refine g_bipush C (n := 8) dX12_init_279 (by decide) ?_
  obtain ⟨c101, h⟩ := ck_e h
  refine g_newa C (atype := .int) 20 8 kac_int hE (Or.inl ⟨rfl, rfl⟩) c101.1 c101.2 rfl (by omega) ⟨by show _ ≤ (58 : Nat); omega, by show _ ≤ 2000 * 58; omega⟩ (by decide) dX12_init_281 ?_
  have F102 : 0 < x0 + 34 ∧ ty_ (x0 + 34) = 20 ∧ ln_ (x0 + 34) = 8 := ⟨by omega, c101⟩
  refine g_sz (sz' := x0 + 35) (by omega) ?_
  obtain ⟨v103, ev103, h⟩ := lt_e h
  refine g_putF C hin (k := 53) (kd := 2) okX12 (by decide) kf_RX12_118 dX12_init_283 ⟨T0.1, by omega⟩ T0.2.1 rfl rfl nvA hE ?_
  refine g_setv C ev103 ?_
  refine g_aload_n C (f := 0) dX12_init_286 0 rfl ?_
  refine g_sipush C (n := 272) dX12_init_287 (by decide) ?_
  obtain ⟨c104, h⟩ := ck_e h
  refine g_newa C (atype := .int) 20 272 kac_int hE (Or.inl ⟨rfl, rfl⟩) c104.1 c104.2 rfl (by omega) ⟨by show _ ≤ (58 : Nat); omega, by show _ ≤ 2000 * 58; omega⟩ (by decide) dX12_init_290 ?_
  have F105 : 0 < x0 + 35 ∧ ty_ (x0 + 35) = 20 ∧ ln_ (x0 + 35) = 272 := ⟨by omega, c104⟩
  refine g_sz (sz' := x0 + 36) (by omega) ?_
  obtain ⟨v106, ev106, h⟩ := lt_e h
  refine g_putF C hin (k := 54) (kd := 2) okX12 (by decide) kf_RX12_121 dX12_init_292 ⟨T0.1, by omega⟩ T0.2.1 rfl rfl nvA hE ?_
  refine g_setv C ev106 ?_
  refine g_aload_n C (f := 0) dX12_init_295 0 rfl ?_
  refine g_sipush C (n := 272) dX12_init_296 (by decide) ?_
  obtain ⟨c107, h⟩ := ck_e h
  refine g_newa C (atype := .int) 20 272 kac_int hE (Or.inl ⟨rfl, rfl⟩) c107.1 c107.2 rfl (by omega) ⟨by show _ ≤ (58 : Nat); omega, by show _ ≤ 2000 * 58; omega⟩ (by decide) dX12_init_299 ?_
  have F108 : 0 < x0 + 36 ∧ ty_ (x0 + 36) = 20 ∧ ln_ (x0 + 36) = 272 := ⟨by omega, c107⟩
  refine g_sz (sz' := x0 + 37) (by omega) ?_
  obtain ⟨v109, ev109, h⟩ := lt_e h
  refine g_putF C hin (k := 55) (kd := 2) okX12 (by decide) kf_RX12_124 dX12_init_301 ⟨T0.1, by omega⟩ T0.2.1 rfl rfl nvA hE ?_
  refine g_setv C ev109 ?_
  refine g_aload_n C (f := 0) dX12_init_304 0 rfl ?_
  refine g_sipush C (n := 272) dX12_init_305 (by decide) ?_
  obtain ⟨c110, h⟩ := ck_e h
  refine g_newa C (atype := .int) 20 272 kac_int hE (Or.inl ⟨rfl, rfl⟩) c110.1 c110.2 rfl (by omega) ⟨by show _ ≤ (58 : Nat); omega, by show _ ≤ 2000 * 58; omega⟩ (by decide) dX12_init_308 ?_
  have F111 : 0 < x0 + 37 ∧ ty_ (x0 + 37) = 20 ∧ ln_ (x0 + 37) = 272 := ⟨by omega, c110⟩
  refine g_sz (sz' := x0 + 38) (by omega) ?_
  obtain ⟨v112, ev112, h⟩ := lt_e h
  refine g_putF C hin (k := 56) (kd := 2) okX12 (by decide) kf_RX12_127 dX12_init_310 ⟨T0.1, by omega⟩ T0.2.1 rfl rfl nvA hE ?_
  refine g_setv C ev112 ?_
  refine g_aload_n C (f := 0) dX12_init_313 0 rfl ?_
  refine g_sipush C (n := 272) dX12_init_314 (by decide) ?_
  obtain ⟨c113, h⟩ := ck_e h
  refine g_newa C (atype := .int) 20 272 kac_int hE (Or.inl ⟨rfl, rfl⟩) c113.1 c113.2 rfl (by omega) ⟨by show _ ≤ (58 : Nat); omega, by show _ ≤ 2000 * 58; omega⟩ (by decide) dX12_init_317 ?_
  have F114 : 0 < x0 + 38 ∧ ty_ (x0 + 38) = 20 ∧ ln_ (x0 + 38) = 272 := ⟨by omega, c113⟩
  refine g_sz (sz' := x0 + 39) (by omega) ?_
  obtain ⟨v115, ev115, h⟩ := lt_e h
  refine g_putF C hin (k := 57) (kd := 2) okX12 (by decide) kf_RX12_130 dX12_init_319 ⟨T0.1, by omega⟩ T0.2.1 rfl rfl nvA hE ?_
  refine g_setv C ev115 ?_
  refine g_aload_n C (f := 0) dX12_init_322 0 rfl ?_
  refine g_sipush C (n := 272) dX12_init_323 (by decide) ?_
  obtain ⟨c116, h⟩ := ck_e h
  refine g_newa C (atype := .int) 20 272 kac_int hE (Or.inl ⟨rfl, rfl⟩) c116.1 c116.2 rfl (by omega) ⟨by show _ ≤ (58 : Nat); omega, by show _ ≤ 2000 * 58; omega⟩ (by decide) dX12_init_326 ?_
  have F117 : 0 < x0 + 39 ∧ ty_ (x0 + 39) = 20 ∧ ln_ (x0 + 39) = 272 := ⟨by omega, c116⟩
  refine g_sz (sz' := x0 + 40) (by omega) ?_
  obtain ⟨v118, ev118, h⟩ := lt_e h
  refine g_putF C hin (k := 58) (kd := 2) okX12 (by decide) kf_RX12_133 dX12_init_328 ⟨T0.1, by omega⟩ T0.2.1 rfl rfl nvA hE ?_
  refine g_setv C ev118 ?_
  refine g_aload_n C (f := 0) dX12_init_331 0 rfl ?_
  refine g_sipush C (n := 272) dX12_init_332 (by decide) ?_
  obtain ⟨c119, h⟩ := ck_e h
  refine g_newa C (atype := .int) 20 272 kac_int hE (Or.inl ⟨rfl, rfl⟩) c119.1 c119.2 rfl (by omega) ⟨by show _ ≤ (58 : Nat); omega, by show _ ≤ 2000 * 58; omega⟩ (by decide) dX12_init_335 ?_
  have F120 : 0 < x0 + 40 ∧ ty_ (x0 + 40) = 20 ∧ ln_ (x0 + 40) = 272 := ⟨by omega, c119⟩
  refine g_sz (sz' := x0 + 41) (by omega) ?_
  obtain ⟨v121, ev121, h⟩ := lt_e h
  refine g_putF C hin (k := 59) (kd := 2) okX12 (by decide) kf_RX12_136 dX12_init_337 ⟨T0.1, by omega⟩ T0.2.1 rfl rfl nvA hE ?_
  refine g_setv C ev121 ?_
  refine g_sub [0] rfl rfl ?_
  exact tX12_init_340 C hr hlk hin hA hE T0 h
set_option maxHeartbeats 4000000 in
theorem tX12_init_222 (C : MC_ E p s m c cX12_init 1 RX12) (hr : meth.sig.returnType = none) (hlk : meth.locks = false) (hin : meth.name = "<init>") (hA : KA_ s) (hE : ∀ a, ¬ E.2.2.2.2.2 a) {x0 : Int} (T0 : 0 < x0 ∧ ty_ x0 = 12 ∧ ln_ x0 = 0) {out : Int × V_} {v : V_} (h : fX12_init_222 x0 v = some out) : G_ E p l e (rmc_ 2 48 58) s m args below meth c 1 (x0 + 1) (Q_ E below args s (x0 + 1) (x0 + 1 + (58 : Nat)) 9 out.1 out.2) 222 [(0, (2, x0))] [] v (x0 + 27) := by
  rw [fX12_init_222] at h
  refine g_aload_n C (f := 0) dX12_init_222 0 rfl ?_
  refine g_bipush C (n := 8) dX12_init_223 (by decide) ?_
  obtain ⟨c80, h⟩ := ck_e h
  refine g_newa C (atype := .int) 20 8 kac_int hE (Or.inl ⟨rfl, rfl⟩) c80.1 c80.2 rfl (by omega) ⟨by show _ ≤ (58 : Nat); omega, by show _ ≤ 2000 * 58; omega⟩ (by decide) dX12_init_225 ?_
  have F81 : 0 < x0 + 27 ∧ ty_ (x0 + 27) = 20 ∧ ln_ (x0 + 27) = 8 := ⟨by omega, c80⟩
  refine g_sz (sz' := x0 + 28) (by omega) ?_
  obtain ⟨v82, ev82, h⟩ := lt_e h
  refine g_putF C hin (k := 43) (kd := 2) okX12 (by decide) kf_RX12_97 dX12_init_227 ⟨T0.1, by omega⟩ T0.2.1 rfl rfl nvA hE ?_
  refine g_setv C ev82 ?_
  refine g_aload_n C (f := 0) dX12_init_230 0 rfl ?_
  refine g_bipush C (n := 16) dX12_init_231 (by decide) ?_
  obtain ⟨c83, h⟩ := ck_e h
  refine g_newa C (atype := .int) 20 16 kac_int hE (Or.inl ⟨rfl, rfl⟩) c83.1 c83.2 rfl (by omega) ⟨by show _ ≤ (58 : Nat); omega, by show _ ≤ 2000 * 58; omega⟩ (by decide) dX12_init_233 ?_
  have F84 : 0 < x0 + 28 ∧ ty_ (x0 + 28) = 20 ∧ ln_ (x0 + 28) = 16 := ⟨by omega, c83⟩
  refine g_sz (sz' := x0 + 29) (by omega) ?_
  obtain ⟨v85, ev85, h⟩ := lt_e h
  refine g_putF C hin (k := 44) (kd := 2) okX12 (by decide) kf_RX12_100 dX12_init_235 ⟨T0.1, by omega⟩ T0.2.1 rfl rfl nvA hE ?_
  refine g_setv C ev85 ?_
  refine g_aload_n C (f := 0) dX12_init_238 0 rfl ?_
  refine g_bipush C (n := 8) dX12_init_239 (by decide) ?_
  obtain ⟨c86, h⟩ := ck_e h
  refine g_newa C (atype := .int) 20 8 kac_int hE (Or.inl ⟨rfl, rfl⟩) c86.1 c86.2 rfl (by omega) ⟨by show _ ≤ (58 : Nat); omega, by show _ ≤ 2000 * 58; omega⟩ (by decide) dX12_init_241 ?_
  have F87 : 0 < x0 + 29 ∧ ty_ (x0 + 29) = 20 ∧ ln_ (x0 + 29) = 8 := ⟨by omega, c86⟩
  refine g_sz (sz' := x0 + 30) (by omega) ?_
  obtain ⟨v88, ev88, h⟩ := lt_e h
  refine g_putF C hin (k := 47) (kd := 2) okX12 (by decide) kf_RX12_103 dX12_init_243 ⟨T0.1, by omega⟩ T0.2.1 rfl rfl nvA hE ?_
  refine g_setv C ev88 ?_
  refine g_aload_n C (f := 0) dX12_init_246 0 rfl ?_
  refine g_bipush C (n := 8) dX12_init_247 (by decide) ?_
  obtain ⟨c89, h⟩ := ck_e h
  refine g_newa C (atype := .int) 20 8 kac_int hE (Or.inl ⟨rfl, rfl⟩) c89.1 c89.2 rfl (by omega) ⟨by show _ ≤ (58 : Nat); omega, by show _ ≤ 2000 * 58; omega⟩ (by decide) dX12_init_249 ?_
  have F90 : 0 < x0 + 30 ∧ ty_ (x0 + 30) = 20 ∧ ln_ (x0 + 30) = 8 := ⟨by omega, c89⟩
  refine g_sz (sz' := x0 + 31) (by omega) ?_
  obtain ⟨v91, ev91, h⟩ := lt_e h
  refine g_putF C hin (k := 48) (kd := 2) okX12 (by decide) kf_RX12_106 dX12_init_251 ⟨T0.1, by omega⟩ T0.2.1 rfl rfl nvA hE ?_
  refine g_setv C ev91 ?_
  refine g_aload_n C (f := 0) dX12_init_254 0 rfl ?_
  refine g_bipush C (n := 8) dX12_init_255 (by decide) ?_
  obtain ⟨c92, h⟩ := ck_e h
  refine g_newa C (atype := .int) 20 8 kac_int hE (Or.inl ⟨rfl, rfl⟩) c92.1 c92.2 rfl (by omega) ⟨by show _ ≤ (58 : Nat); omega, by show _ ≤ 2000 * 58; omega⟩ (by decide) dX12_init_257 ?_
  have F93 : 0 < x0 + 31 ∧ ty_ (x0 + 31) = 20 ∧ ln_ (x0 + 31) = 8 := ⟨by omega, c92⟩
  refine g_sz (sz' := x0 + 32) (by omega) ?_
  obtain ⟨v94, ev94, h⟩ := lt_e h
  refine g_putF C hin (k := 49) (kd := 2) okX12 (by decide) kf_RX12_109 dX12_init_259 ⟨T0.1, by omega⟩ T0.2.1 rfl rfl nvA hE ?_
  refine g_setv C ev94 ?_
  refine g_aload_n C (f := 0) dX12_init_262 0 rfl ?_
  refine g_bipush C (n := 32) dX12_init_263 (by decide) ?_
  obtain ⟨c95, h⟩ := ck_e h
  refine g_newa C (atype := .int) 20 32 kac_int hE (Or.inl ⟨rfl, rfl⟩) c95.1 c95.2 rfl (by omega) ⟨by show _ ≤ (58 : Nat); omega, by show _ ≤ 2000 * 58; omega⟩ (by decide) dX12_init_265 ?_
  have F96 : 0 < x0 + 32 ∧ ty_ (x0 + 32) = 20 ∧ ln_ (x0 + 32) = 32 := ⟨by omega, c95⟩
  refine g_sz (sz' := x0 + 33) (by omega) ?_
  obtain ⟨v97, ev97, h⟩ := lt_e h
  refine g_putF C hin (k := 50) (kd := 2) okX12 (by decide) kf_RX12_112 dX12_init_267 ⟨T0.1, by omega⟩ T0.2.1 rfl rfl nvA hE ?_
  refine g_setv C ev97 ?_
  refine g_aload_n C (f := 0) dX12_init_270 0 rfl ?_
  refine g_bipush C (n := 8) dX12_init_271 (by decide) ?_
  obtain ⟨c98, h⟩ := ck_e h
  refine g_newa C (atype := .int) 20 8 kac_int hE (Or.inl ⟨rfl, rfl⟩) c98.1 c98.2 rfl (by omega) ⟨by show _ ≤ (58 : Nat); omega, by show _ ≤ 2000 * 58; omega⟩ (by decide) dX12_init_273 ?_
  have F99 : 0 < x0 + 33 ∧ ty_ (x0 + 33) = 20 ∧ ln_ (x0 + 33) = 8 := ⟨by omega, c98⟩
  refine g_sz (sz' := x0 + 34) (by omega) ?_
  obtain ⟨v100, ev100, h⟩ := lt_e h
  refine g_putF C hin (k := 51) (kd := 2) okX12 (by decide) kf_RX12_115 dX12_init_275 ⟨T0.1, by omega⟩ T0.2.1 rfl rfl nvA hE ?_
  refine g_setv C ev100 ?_
  refine g_sub [0] rfl rfl ?_
  exact tX12_init_278 C hr hlk hin hA hE T0 h
set_option maxHeartbeats 4000000 in
theorem tX12_init_166 (C : MC_ E p s m c cX12_init 1 RX12) (hr : meth.sig.returnType = none) (hlk : meth.locks = false) (hin : meth.name = "<init>") (hA : KA_ s) (hE : ∀ a, ¬ E.2.2.2.2.2 a) {x0 : Int} (T0 : 0 < x0 ∧ ty_ x0 = 12 ∧ ln_ x0 = 0) {out : Int × V_} {v : V_} (h : fX12_init_166 x0 v = some out) : G_ E p l e (rmc_ 2 48 58) s m args below meth c 1 (x0 + 1) (Q_ E below args s (x0 + 1) (x0 + 1 + (58 : Nat)) 9 out.1 out.2) 166 [(0, (2, x0))] [] v (x0 + 20) := by
  rw [fX12_init_166] at h
  refine g_aload_n C (f := 0) dX12_init_166 0 rfl ?_
  refine g_bipush C (n := 16) dX12_init_167 (by decide) ?_
  obtain ⟨c59, h⟩ := ck_e h
  refine g_newa C (atype := .int) 20 16 kac_int hE (Or.inl ⟨rfl, rfl⟩) c59.1 c59.2 rfl (by omega) ⟨by show _ ≤ (58 : Nat); omega, by show _ ≤ 2000 * 58; omega⟩ (by decide) dX12_init_169 ?_
  have F60 : 0 < x0 + 20 ∧ ty_ (x0 + 20) = 20 ∧ ln_ (x0 + 20) = 16 := ⟨by omega, c59⟩
  refine g_sz (sz' := x0 + 21) (by omega) ?_
  obtain ⟨v61, ev61, h⟩ := lt_e h
  refine g_putF C hin (k := 33) (kd := 2) okX12 (by decide) kf_RX12_76 dX12_init_171 ⟨T0.1, by omega⟩ T0.2.1 rfl rfl nvA hE ?_
  refine g_setv C ev61 ?_
  refine g_aload_n C (f := 0) dX12_init_174 0 rfl ?_
  refine g_bipush C (n := 32) dX12_init_175 (by decide) ?_
  obtain ⟨c62, h⟩ := ck_e h
  refine g_newa C (atype := .int) 20 32 kac_int hE (Or.inl ⟨rfl, rfl⟩) c62.1 c62.2 rfl (by omega) ⟨by show _ ≤ (58 : Nat); omega, by show _ ≤ 2000 * 58; omega⟩ (by decide) dX12_init_177 ?_
  have F63 : 0 < x0 + 21 ∧ ty_ (x0 + 21) = 20 ∧ ln_ (x0 + 21) = 32 := ⟨by omega, c62⟩
  refine g_sz (sz' := x0 + 22) (by omega) ?_
  obtain ⟨v64, ev64, h⟩ := lt_e h
  refine g_putF C hin (k := 34) (kd := 2) okX12 (by decide) kf_RX12_79 dX12_init_179 ⟨T0.1, by omega⟩ T0.2.1 rfl rfl nvA hE ?_
  refine g_setv C ev64 ?_
  refine g_aload_n C (f := 0) dX12_init_182 0 rfl ?_
  refine g_bipush C (n := 32) dX12_init_183 (by decide) ?_
  obtain ⟨c65, h⟩ := ck_e h
  refine g_newa C (atype := .int) 20 32 kac_int hE (Or.inl ⟨rfl, rfl⟩) c65.1 c65.2 rfl (by omega) ⟨by show _ ≤ (58 : Nat); omega, by show _ ≤ 2000 * 58; omega⟩ (by decide) dX12_init_185 ?_
  have F66 : 0 < x0 + 22 ∧ ty_ (x0 + 22) = 20 ∧ ln_ (x0 + 22) = 32 := ⟨by omega, c65⟩
  refine g_sz (sz' := x0 + 23) (by omega) ?_
  obtain ⟨v67, ev67, h⟩ := lt_e h
  refine g_putF C hin (k := 35) (kd := 2) okX12 (by decide) kf_RX12_82 dX12_init_187 ⟨T0.1, by omega⟩ T0.2.1 rfl rfl nvA hE ?_
  refine g_setv C ev67 ?_
  refine g_aload_n C (f := 0) dX12_init_190 0 rfl ?_
  refine g_bipush C (n := 47) dX12_init_191 (by decide) ?_
  obtain ⟨c68, h⟩ := ck_e h
  refine g_newa C (atype := .int) 20 47 kac_int hE (Or.inl ⟨rfl, rfl⟩) c68.1 c68.2 rfl (by omega) ⟨by show _ ≤ (58 : Nat); omega, by show _ ≤ 2000 * 58; omega⟩ (by decide) dX12_init_193 ?_
  have F69 : 0 < x0 + 23 ∧ ty_ (x0 + 23) = 20 ∧ ln_ (x0 + 23) = 47 := ⟨by omega, c68⟩
  refine g_sz (sz' := x0 + 24) (by omega) ?_
  obtain ⟨v70, ev70, h⟩ := lt_e h
  refine g_putF C hin (k := 36) (kd := 2) okX12 (by decide) kf_RX12_85 dX12_init_195 ⟨T0.1, by omega⟩ T0.2.1 rfl rfl nvA hE ?_
  refine g_setv C ev70 ?_
  refine g_aload_n C (f := 0) dX12_init_198 0 rfl ?_
  refine g_bipush C (n := 47) dX12_init_199 (by decide) ?_
  obtain ⟨c71, h⟩ := ck_e h
  refine g_newa C (atype := .int) 20 47 kac_int hE (Or.inl ⟨rfl, rfl⟩) c71.1 c71.2 rfl (by omega) ⟨by show _ ≤ (58 : Nat); omega, by show _ ≤ 2000 * 58; omega⟩ (by decide) dX12_init_201 ?_
  have F72 : 0 < x0 + 24 ∧ ty_ (x0 + 24) = 20 ∧ ln_ (x0 + 24) = 47 := ⟨by omega, c71⟩
  refine g_sz (sz' := x0 + 25) (by omega) ?_
  obtain ⟨v73, ev73, h⟩ := lt_e h
  refine g_putF C hin (k := 37) (kd := 2) okX12 (by decide) kf_RX12_88 dX12_init_203 ⟨T0.1, by omega⟩ T0.2.1 rfl rfl nvA hE ?_
  refine g_setv C ev73 ?_
  refine g_aload_n C (f := 0) dX12_init_206 0 rfl ?_
  refine g_bipush C (n := 12) dX12_init_207 (by decide) ?_
  obtain ⟨c74, h⟩ := ck_e h
  refine g_newa C (atype := .int) 20 12 kac_int hE (Or.inl ⟨rfl, rfl⟩) c74.1 c74.2 rfl (by omega) ⟨by show _ ≤ (58 : Nat); omega, by show _ ≤ 2000 * 58; omega⟩ (by decide) dX12_init_209 ?_
  have F75 : 0 < x0 + 25 ∧ ty_ (x0 + 25) = 20 ∧ ln_ (x0 + 25) = 12 := ⟨by omega, c74⟩
  refine g_sz (sz' := x0 + 26) (by omega) ?_
  obtain ⟨v76, ev76, h⟩ := lt_e h
  refine g_putF C hin (k := 38) (kd := 2) okX12 (by decide) kf_RX12_91 dX12_init_211 ⟨T0.1, by omega⟩ T0.2.1 rfl rfl nvA hE ?_
  refine g_setv C ev76 ?_
  refine g_aload_n C (f := 0) dX12_init_214 0 rfl ?_
  refine g_bipush C (n := 8) dX12_init_215 (by decide) ?_
  obtain ⟨c77, h⟩ := ck_e h
  refine g_newa C (atype := .int) 20 8 kac_int hE (Or.inl ⟨rfl, rfl⟩) c77.1 c77.2 rfl (by omega) ⟨by show _ ≤ (58 : Nat); omega, by show _ ≤ 2000 * 58; omega⟩ (by decide) dX12_init_217 ?_
  have F78 : 0 < x0 + 26 ∧ ty_ (x0 + 26) = 20 ∧ ln_ (x0 + 26) = 8 := ⟨by omega, c77⟩
  refine g_sz (sz' := x0 + 27) (by omega) ?_
  obtain ⟨v79, ev79, h⟩ := lt_e h
  refine g_putF C hin (k := 39) (kd := 2) okX12 (by decide) kf_RX12_94 dX12_init_219 ⟨T0.1, by omega⟩ T0.2.1 rfl rfl nvA hE ?_
  refine g_setv C ev79 ?_
  refine g_sub [0] rfl rfl ?_
  exact tX12_init_222 C hr hlk hin hA hE T0 h
set_option maxHeartbeats 4000000 in
theorem tX12_init_110 (C : MC_ E p s m c cX12_init 1 RX12) (hr : meth.sig.returnType = none) (hlk : meth.locks = false) (hin : meth.name = "<init>") (hA : KA_ s) (hE : ∀ a, ¬ E.2.2.2.2.2 a) {x0 : Int} (T0 : 0 < x0 ∧ ty_ x0 = 12 ∧ ln_ x0 = 0) {out : Int × V_} {v : V_} (h : fX12_init_110 x0 v = some out) : G_ E p l e (rmc_ 2 48 58) s m args below meth c 1 (x0 + 1) (Q_ E below args s (x0 + 1) (x0 + 1 + (58 : Nat)) 9 out.1 out.2) 110 [(0, (2, x0))] [] v (x0 + 13) := by
  rw [fX12_init_110] at h
  refine g_aload_n C (f := 0) dX12_init_110 0 rfl ?_
  refine g_bipush C (n := 96) dX12_init_111 (by decide) ?_
  obtain ⟨c38, h⟩ := ck_e h
  refine g_newa C (atype := .int) 20 96 kac_int hE (Or.inl ⟨rfl, rfl⟩) c38.1 c38.2 rfl (by omega) ⟨by show _ ≤ (58 : Nat); omega, by show _ ≤ 2000 * 58; omega⟩ (by decide) dX12_init_113 ?_
  have F39 : 0 < x0 + 13 ∧ ty_ (x0 + 13) = 20 ∧ ln_ (x0 + 13) = 96 := ⟨by omega, c38⟩
  refine g_sz (sz' := x0 + 14) (by omega) ?_
  obtain ⟨v40, ev40, h⟩ := lt_e h
  refine g_putF C hin (k := 26) (kd := 2) okX12 (by decide) kf_RX12_55 dX12_init_115 ⟨T0.1, by omega⟩ T0.2.1 rfl rfl nvA hE ?_
  refine g_setv C ev40 ?_
  refine g_aload_n C (f := 0) dX12_init_118 0 rfl ?_
  refine g_bipush C (n := 96) dX12_init_119 (by decide) ?_
  obtain ⟨c41, h⟩ := ck_e h
  refine g_newa C (atype := .int) 20 96 kac_int hE (Or.inl ⟨rfl, rfl⟩) c41.1 c41.2 rfl (by omega) ⟨by show _ ≤ (58 : Nat); omega, by show _ ≤ 2000 * 58; omega⟩ (by decide) dX12_init_121 ?_
  have F42 : 0 < x0 + 14 ∧ ty_ (x0 + 14) = 20 ∧ ln_ (x0 + 14) = 96 := ⟨by omega, c41⟩
  refine g_sz (sz' := x0 + 15) (by omega) ?_
  obtain ⟨v43, ev43, h⟩ := lt_e h
  refine g_putF C hin (k := 27) (kd := 2) okX12 (by decide) kf_RX12_58 dX12_init_123 ⟨T0.1, by omega⟩ T0.2.1 rfl rfl nvA hE ?_
  refine g_setv C ev43 ?_
  refine g_aload_n C (f := 0) dX12_init_126 0 rfl ?_
  refine g_bipush C (n := 96) dX12_init_127 (by decide) ?_
  obtain ⟨c44, h⟩ := ck_e h
  refine g_newa C (atype := .int) 20 96 kac_int hE (Or.inl ⟨rfl, rfl⟩) c44.1 c44.2 rfl (by omega) ⟨by show _ ≤ (58 : Nat); omega, by show _ ≤ 2000 * 58; omega⟩ (by decide) dX12_init_129 ?_
  have F45 : 0 < x0 + 15 ∧ ty_ (x0 + 15) = 20 ∧ ln_ (x0 + 15) = 96 := ⟨by omega, c44⟩
  refine g_sz (sz' := x0 + 16) (by omega) ?_
  obtain ⟨v46, ev46, h⟩ := lt_e h
  refine g_putF C hin (k := 28) (kd := 2) okX12 (by decide) kf_RX12_61 dX12_init_131 ⟨T0.1, by omega⟩ T0.2.1 rfl rfl nvA hE ?_
  refine g_setv C ev46 ?_
  refine g_aload_n C (f := 0) dX12_init_134 0 rfl ?_
  refine g_bipush C (n := 96) dX12_init_135 (by decide) ?_
  obtain ⟨c47, h⟩ := ck_e h
  refine g_newa C (atype := .int) 20 96 kac_int hE (Or.inl ⟨rfl, rfl⟩) c47.1 c47.2 rfl (by omega) ⟨by show _ ≤ (58 : Nat); omega, by show _ ≤ 2000 * 58; omega⟩ (by decide) dX12_init_137 ?_
  have F48 : 0 < x0 + 16 ∧ ty_ (x0 + 16) = 20 ∧ ln_ (x0 + 16) = 96 := ⟨by omega, c47⟩
  refine g_sz (sz' := x0 + 17) (by omega) ?_
  obtain ⟨v49, ev49, h⟩ := lt_e h
  refine g_putF C hin (k := 29) (kd := 2) okX12 (by decide) kf_RX12_64 dX12_init_139 ⟨T0.1, by omega⟩ T0.2.1 rfl rfl nvA hE ?_
  refine g_setv C ev49 ?_
  refine g_aload_n C (f := 0) dX12_init_142 0 rfl ?_
  refine g_bipush C (n := 96) dX12_init_143 (by decide) ?_
  obtain ⟨c50, h⟩ := ck_e h
  refine g_newa C (atype := .int) 20 96 kac_int hE (Or.inl ⟨rfl, rfl⟩) c50.1 c50.2 rfl (by omega) ⟨by show _ ≤ (58 : Nat); omega, by show _ ≤ 2000 * 58; omega⟩ (by decide) dX12_init_145 ?_
  have F51 : 0 < x0 + 17 ∧ ty_ (x0 + 17) = 20 ∧ ln_ (x0 + 17) = 96 := ⟨by omega, c50⟩
  refine g_sz (sz' := x0 + 18) (by omega) ?_
  obtain ⟨v52, ev52, h⟩ := lt_e h
  refine g_putF C hin (k := 30) (kd := 2) okX12 (by decide) kf_RX12_67 dX12_init_147 ⟨T0.1, by omega⟩ T0.2.1 rfl rfl nvA hE ?_
  refine g_setv C ev52 ?_
  refine g_aload_n C (f := 0) dX12_init_150 0 rfl ?_
  refine g_bipush C (n := 16) dX12_init_151 (by decide) ?_
  obtain ⟨c53, h⟩ := ck_e h
  refine g_newa C (atype := .int) 20 16 kac_int hE (Or.inl ⟨rfl, rfl⟩) c53.1 c53.2 rfl (by omega) ⟨by show _ ≤ (58 : Nat); omega, by show _ ≤ 2000 * 58; omega⟩ (by decide) dX12_init_153 ?_
  have F54 : 0 < x0 + 18 ∧ ty_ (x0 + 18) = 20 ∧ ln_ (x0 + 18) = 16 := ⟨by omega, c53⟩
  refine g_sz (sz' := x0 + 19) (by omega) ?_
  obtain ⟨v55, ev55, h⟩ := lt_e h
  refine g_putF C hin (k := 31) (kd := 2) okX12 (by decide) kf_RX12_70 dX12_init_155 ⟨T0.1, by omega⟩ T0.2.1 rfl rfl nvA hE ?_
  refine g_setv C ev55 ?_
  refine g_aload_n C (f := 0) dX12_init_158 0 rfl ?_
  refine g_bipush C (n := 16) dX12_init_159 (by decide) ?_
  obtain ⟨c56, h⟩ := ck_e h
  refine g_newa C (atype := .int) 20 16 kac_int hE (Or.inl ⟨rfl, rfl⟩) c56.1 c56.2 rfl (by omega) ⟨by show _ ≤ (58 : Nat); omega, by show _ ≤ 2000 * 58; omega⟩ (by decide) dX12_init_161 ?_
  have F57 : 0 < x0 + 19 ∧ ty_ (x0 + 19) = 20 ∧ ln_ (x0 + 19) = 16 := ⟨by omega, c56⟩
  refine g_sz (sz' := x0 + 20) (by omega) ?_
  obtain ⟨v58, ev58, h⟩ := lt_e h
  refine g_putF C hin (k := 32) (kd := 2) okX12 (by decide) kf_RX12_73 dX12_init_163 ⟨T0.1, by omega⟩ T0.2.1 rfl rfl nvA hE ?_
  refine g_setv C ev58 ?_
  refine g_sub [0] rfl rfl ?_
  exact tX12_init_166 C hr hlk hin hA hE T0 h
set_option maxHeartbeats 4000000 in
theorem tX12_init_58 (C : MC_ E p s m c cX12_init 1 RX12) (hr : meth.sig.returnType = none) (hlk : meth.locks = false) (hin : meth.name = "<init>") (hA : KA_ s) (hE : ∀ a, ¬ E.2.2.2.2.2 a) {x0 : Int} (T0 : 0 < x0 ∧ ty_ x0 = 12 ∧ ln_ x0 = 0) {out : Int × V_} {v : V_} (h : fX12_init_58 x0 v = some out) : G_ E p l e (rmc_ 2 48 58) s m args below meth c 1 (x0 + 1) (Q_ E below args s (x0 + 1) (x0 + 1 + (58 : Nat)) 9 out.1 out.2) 58 [(0, (2, x0))] [] v (x0 + 7) := by
  rw [fX12_init_58] at h
  refine g_aload_n C (f := 0) dX12_init_58 0 rfl ?_
  refine g_bipush C (n := 17) dX12_init_59 (by decide) ?_
  obtain ⟨c19, h⟩ := ck_e h
  refine g_newa C (atype := .long) 22 17 kac_long hE (Or.inr (Or.inr (Or.inl ⟨rfl, rfl⟩))) c19.1 c19.2 rfl (by omega) ⟨by show _ ≤ (58 : Nat); omega, by show _ ≤ 2000 * 58; omega⟩ (by decide) dX12_init_61 ?_
  have F20 : 0 < x0 + 7 ∧ ty_ (x0 + 7) = 22 ∧ ln_ (x0 + 7) = 17 := ⟨by omega, c19⟩
  refine g_sz (sz' := x0 + 8) (by omega) ?_
  obtain ⟨v21, ev21, h⟩ := lt_e h
  refine g_putF C hin (k := 9) (kd := 2) okX12 (by decide) kf_RX12_34 dX12_init_63 ⟨T0.1, by omega⟩ T0.2.1 rfl rfl nvA hE ?_
  refine g_setv C ev21 ?_
  refine g_aload_n C (f := 0) dX12_init_66 0 rfl ?_
  refine g_iconst C (n := (-1)) dX12_init_67 (by decide) ?_
  obtain ⟨v22, ev22, h⟩ := lt_e h
  refine g_putf C (k := 17) (kd := 0) okX12 (by decide) kf_RX12_37 dX12_init_68 ⟨T0.1, by omega⟩ T0.2.1 rfl rfl nvI (Or.inr (hE _)) v22 ev22 ?_
  refine g_aload_n C (f := 0) dX12_init_71 0 rfl ?_
  refine g_bipush C (n := 8) dX12_init_72 (by decide) ?_
  obtain ⟨c23, h⟩ := ck_e h
  refine g_newa C (atype := .long) 22 8 kac_long hE (Or.inr (Or.inr (Or.inl ⟨rfl, rfl⟩))) c23.1 c23.2 rfl (by omega) ⟨by show _ ≤ (58 : Nat); omega, by show _ ≤ 2000 * 58; omega⟩ (by decide) dX12_init_74 ?_
  have F24 : 0 < x0 + 8 ∧ ty_ (x0 + 8) = 22 ∧ ln_ (x0 + 8) = 8 := ⟨by omega, c23⟩
  refine g_sz (sz' := x0 + 9) (by omega) ?_
  obtain ⟨v25, ev25, h⟩ := lt_e h
  refine g_putF C hin (k := 21) (kd := 2) okX12 (by decide) kf_RX12_40 dX12_init_76 ⟨T0.1, by omega⟩ T0.2.1 rfl rfl nvA hE ?_
  refine g_setv C ev25 ?_
  refine g_aload_n C (f := 0) dX12_init_79 0 rfl ?_
  refine g_iconst C (n := 2) dX12_init_80 (by decide) ?_
  obtain ⟨c26, h⟩ := ck_e h
  refine g_newa C (atype := .int) 20 2 kac_int hE (Or.inl ⟨rfl, rfl⟩) c26.1 c26.2 rfl (by omega) ⟨by show _ ≤ (58 : Nat); omega, by show _ ≤ 2000 * 58; omega⟩ (by decide) dX12_init_81 ?_
  have F27 : 0 < x0 + 9 ∧ ty_ (x0 + 9) = 20 ∧ ln_ (x0 + 9) = 2 := ⟨by omega, c26⟩
  refine g_sz (sz' := x0 + 10) (by omega) ?_
  obtain ⟨v28, ev28, h⟩ := lt_e h
  refine g_putF C hin (k := 22) (kd := 2) okX12 (by decide) kf_RX12_43 dX12_init_83 ⟨T0.1, by omega⟩ T0.2.1 rfl rfl nvA hE ?_
  refine g_setv C ev28 ?_
  refine g_aload_n C (f := 0) dX12_init_86 0 rfl ?_
  refine g_bipush C (n := 8) dX12_init_87 (by decide) ?_
  obtain ⟨c29, h⟩ := ck_e h
  refine g_newa C (atype := .int) 20 8 kac_int hE (Or.inl ⟨rfl, rfl⟩) c29.1 c29.2 rfl (by omega) ⟨by show _ ≤ (58 : Nat); omega, by show _ ≤ 2000 * 58; omega⟩ (by decide) dX12_init_89 ?_
  have F30 : 0 < x0 + 10 ∧ ty_ (x0 + 10) = 20 ∧ ln_ (x0 + 10) = 8 := ⟨by omega, c29⟩
  refine g_sz (sz' := x0 + 11) (by omega) ?_
  obtain ⟨v31, ev31, h⟩ := lt_e h
  refine g_putF C hin (k := 23) (kd := 2) okX12 (by decide) kf_RX12_46 dX12_init_91 ⟨T0.1, by omega⟩ T0.2.1 rfl rfl nvA hE ?_
  refine g_setv C ev31 ?_
  refine g_aload_n C (f := 0) dX12_init_94 0 rfl ?_
  refine g_bipush C (n := 8) dX12_init_95 (by decide) ?_
  obtain ⟨c32, h⟩ := ck_e h
  refine g_newa C (atype := .int) 20 8 kac_int hE (Or.inl ⟨rfl, rfl⟩) c32.1 c32.2 rfl (by omega) ⟨by show _ ≤ (58 : Nat); omega, by show _ ≤ 2000 * 58; omega⟩ (by decide) dX12_init_97 ?_
  have F33 : 0 < x0 + 11 ∧ ty_ (x0 + 11) = 20 ∧ ln_ (x0 + 11) = 8 := ⟨by omega, c32⟩
  refine g_sz (sz' := x0 + 12) (by omega) ?_
  obtain ⟨v34, ev34, h⟩ := lt_e h
  refine g_putF C hin (k := 24) (kd := 2) okX12 (by decide) kf_RX12_49 dX12_init_99 ⟨T0.1, by omega⟩ T0.2.1 rfl rfl nvA hE ?_
  refine g_setv C ev34 ?_
  refine g_aload_n C (f := 0) dX12_init_102 0 rfl ?_
  refine g_bipush C (n := 16) dX12_init_103 (by decide) ?_
  obtain ⟨c35, h⟩ := ck_e h
  refine g_newa C (atype := .int) 20 16 kac_int hE (Or.inl ⟨rfl, rfl⟩) c35.1 c35.2 rfl (by omega) ⟨by show _ ≤ (58 : Nat); omega, by show _ ≤ 2000 * 58; omega⟩ (by decide) dX12_init_105 ?_
  have F36 : 0 < x0 + 12 ∧ ty_ (x0 + 12) = 20 ∧ ln_ (x0 + 12) = 16 := ⟨by omega, c35⟩
  refine g_sz (sz' := x0 + 13) (by omega) ?_
  obtain ⟨v37, ev37, h⟩ := lt_e h
  refine g_putF C hin (k := 25) (kd := 2) okX12 (by decide) kf_RX12_52 dX12_init_107 ⟨T0.1, by omega⟩ T0.2.1 rfl rfl nvA hE ?_
  refine g_setv C ev37 ?_
  refine g_sub [0] rfl rfl ?_
  exact tX12_init_110 C hr hlk hin hA hE T0 h
end
set_option maxHeartbeats 20000000 in
theorem cX12_init_ok (l : Launch) {E : En_} (hE : ∀ a, ¬ E.2.2.2.2.2 a) {x0 : Int} {v : V_} {out : Int × V_} (T0 : 0 < x0 ∧ ty_ x0 = 12 ∧ ln_ x0 = 0) (h : fX12_init x0 v = some out) : Met l yX12_init [.code yX12_init cX12_init 1 none] (rmc_ 2 48 58) (PcA_ E (x0 + 1) v [(2, x0)]) (Qc_ E (x0 + 1 + (58 : Nat)) 9 out.1 out.2) 58 (2000 * 58) (fun q => E.1 < q) := by
  refine met_GK RX12 (by decide +kernel) rfl (Nat.le_of_ble_eq_true rfl) ?_
  intro p e s m args below meth c C hA hr hlk hin
  rw [fX12_init] at h
  refine g_aload_n C (f := 0) dX12_init_0 0 rfl ?_
  refine g_objI C kObj_RX12 kObjM kObjC T0.1 ⟨Nat.le_of_ble_eq_true rfl, Nat.le_of_ble_eq_true rfl⟩ dX12_init_1 ?_
  refine g_aload_n C (f := 0) dX12_init_4 0 rfl ?_
  refine g_sipush C (n := 2000) dX12_init_5 (by decide) ?_
  obtain ⟨c1, h⟩ := ck_e h
  refine g_newa C (atype := .byte) 21 2000 kac_byte hE (Or.inr (Or.inl ⟨rfl, rfl⟩)) c1.1 c1.2 rfl (by omega) ⟨by show _ ≤ (58 : Nat); omega, by show _ ≤ 2000 * 58; omega⟩ (by decide) dX12_init_8 ?_
  have F2 : 0 < x0 + 1 ∧ ty_ (x0 + 1) = 21 ∧ ln_ (x0 + 1) = 2000 := ⟨by omega, c1⟩
  refine g_sz (sz' := x0 + 2) (by omega) ?_
  obtain ⟨v3, ev3, h⟩ := lt_e h
  refine g_putF C hin (k := 1) (kd := 2) okX12 (by decide) kf_RX12_13 dX12_init_10 ⟨T0.1, by omega⟩ T0.2.1 rfl rfl nvA hE ?_
  refine g_setv C ev3 ?_
  refine g_aload_n C (f := 0) dX12_init_13 0 rfl ?_
  refine g_sipush C (n := 2000) dX12_init_14 (by decide) ?_
  obtain ⟨c4, h⟩ := ck_e h
  refine g_newa C (atype := .byte) 21 2000 kac_byte hE (Or.inr (Or.inl ⟨rfl, rfl⟩)) c4.1 c4.2 rfl (by omega) ⟨by show _ ≤ (58 : Nat); omega, by show _ ≤ 2000 * 58; omega⟩ (by decide) dX12_init_17 ?_
  have F5 : 0 < x0 + 2 ∧ ty_ (x0 + 2) = 21 ∧ ln_ (x0 + 2) = 2000 := ⟨by omega, c4⟩
  refine g_sz (sz' := x0 + 3) (by omega) ?_
  obtain ⟨v6, ev6, h⟩ := lt_e h
  refine g_putF C hin (k := 3) (kd := 2) okX12 (by decide) kf_RX12_17 dX12_init_19 ⟨T0.1, by omega⟩ T0.2.1 rfl rfl nvA hE ?_
  refine g_setv C ev6 ?_
  refine g_aload_n C (f := 0) dX12_init_22 0 rfl ?_
  refine g_sipush C (n := 403) dX12_init_23 (by decide) ?_
  obtain ⟨c7, h⟩ := ck_e h
  refine g_newa C (atype := .int) 20 403 kac_int hE (Or.inl ⟨rfl, rfl⟩) c7.1 c7.2 rfl (by omega) ⟨by show _ ≤ (58 : Nat); omega, by show _ ≤ 2000 * 58; omega⟩ (by decide) dX12_init_26 ?_
  have F8 : 0 < x0 + 3 ∧ ty_ (x0 + 3) = 20 ∧ ln_ (x0 + 3) = 403 := ⟨by omega, c7⟩
  refine g_sz (sz' := x0 + 4) (by omega) ?_
  obtain ⟨v9, ev9, h⟩ := lt_e h
  refine g_putF C hin (k := 5) (kd := 2) okX12 (by decide) kf_RX12_20 dX12_init_28 ⟨T0.1, by omega⟩ T0.2.1 rfl rfl nvA hE ?_
  refine g_setv C ev9 ?_
  refine g_aload_n C (f := 0) dX12_init_31 0 rfl ?_
  refine g_sipush C (n := 403) dX12_init_32 (by decide) ?_
  obtain ⟨c10, h⟩ := ck_e h
  refine g_newa C (atype := .int) 20 403 kac_int hE (Or.inl ⟨rfl, rfl⟩) c10.1 c10.2 rfl (by omega) ⟨by show _ ≤ (58 : Nat); omega, by show _ ≤ 2000 * 58; omega⟩ (by decide) dX12_init_35 ?_
  have F11 : 0 < x0 + 4 ∧ ty_ (x0 + 4) = 20 ∧ ln_ (x0 + 4) = 403 := ⟨by omega, c10⟩
  refine g_sz (sz' := x0 + 5) (by omega) ?_
  obtain ⟨v12, ev12, h⟩ := lt_e h
  refine g_putF C hin (k := 6) (kd := 2) okX12 (by decide) kf_RX12_24 dX12_init_37 ⟨T0.1, by omega⟩ T0.2.1 rfl rfl nvA hE ?_
  refine g_setv C ev12 ?_
  refine g_aload_n C (f := 0) dX12_init_40 0 rfl ?_
  refine g_sipush C (n := 403) dX12_init_41 (by decide) ?_
  obtain ⟨c13, h⟩ := ck_e h
  refine g_newa C (atype := .int) 20 403 kac_int hE (Or.inl ⟨rfl, rfl⟩) c13.1 c13.2 rfl (by omega) ⟨by show _ ≤ (58 : Nat); omega, by show _ ≤ 2000 * 58; omega⟩ (by decide) dX12_init_44 ?_
  have F14 : 0 < x0 + 5 ∧ ty_ (x0 + 5) = 20 ∧ ln_ (x0 + 5) = 403 := ⟨by omega, c13⟩
  refine g_sz (sz' := x0 + 6) (by omega) ?_
  obtain ⟨v15, ev15, h⟩ := lt_e h
  refine g_putF C hin (k := 7) (kd := 2) okX12 (by decide) kf_RX12_27 dX12_init_46 ⟨T0.1, by omega⟩ T0.2.1 rfl rfl nvA hE ?_
  refine g_setv C ev15 ?_
  refine g_aload_n C (f := 0) dX12_init_49 0 rfl ?_
  refine g_sipush C (n := 403) dX12_init_50 (by decide) ?_
  obtain ⟨c16, h⟩ := ck_e h
  refine g_newa C (atype := .long) 22 403 kac_long hE (Or.inr (Or.inr (Or.inl ⟨rfl, rfl⟩))) c16.1 c16.2 rfl (by omega) ⟨by show _ ≤ (58 : Nat); omega, by show _ ≤ 2000 * 58; omega⟩ (by decide) dX12_init_53 ?_
  have F17 : 0 < x0 + 6 ∧ ty_ (x0 + 6) = 22 ∧ ln_ (x0 + 6) = 403 := ⟨by omega, c16⟩
  refine g_sz (sz' := x0 + 7) (by omega) ?_
  obtain ⟨v18, ev18, h⟩ := lt_e h
  refine g_putF C hin (k := 8) (kd := 2) okX12 (by decide) kf_RX12_30 dX12_init_55 ⟨T0.1, by omega⟩ T0.2.1 rfl rfl nvA hE ?_
  refine g_setv C ev18 ?_
  refine g_sub [0] rfl rfl ?_
  exact tX12_init_58 C hr hlk hin hA hE T0 h
