theorem dX11_init_0 : decode cX11_init 0 = .ok (.aload_n 0, 1) := by decide +kernel
theorem dX11_init_1 : decode cX11_init 1 = .ok (.invokespecial 7, 3) := by decide +kernel
theorem dX11_init_4 : decode cX11_init 4 = .ok (.aload_n 0, 1) := by decide +kernel
theorem dX11_init_5 : decode cX11_init 5 = .ok (.sipush 2000, 3) := by decide +kernel
theorem dX11_init_8 : decode cX11_init 8 = .ok (.newarray .byte, 2) := by decide +kernel
theorem dX11_init_10 : decode cX11_init 10 = .ok (.putfield 13, 3) := by decide +kernel
theorem dX11_init_13 : decode cX11_init 13 = .ok (.aload_n 0, 1) := by decide +kernel
theorem dX11_init_14 : decode cX11_init 14 = .ok (.sipush 2000, 3) := by decide +kernel
theorem dX11_init_17 : decode cX11_init 17 = .ok (.newarray .byte, 2) := by decide +kernel
theorem dX11_init_19 : decode cX11_init 19 = .ok (.putfield 17, 3) := by decide +kernel
theorem dX11_init_22 : decode cX11_init 22 = .ok (.aload_n 0, 1) := by decide +kernel
theorem dX11_init_23 : decode cX11_init 23 = .ok (.sipush 403, 3) := by decide +kernel
theorem dX11_init_26 : decode cX11_init 26 = .ok (.newarray .int, 2) := by decide +kernel
theorem dX11_init_28 : decode cX11_init 28 = .ok (.putfield 20, 3) := by decide +kernel
theorem dX11_init_31 : decode cX11_init 31 = .ok (.aload_n 0, 1) := by decide +kernel
theorem dX11_init_32 : decode cX11_init 32 = .ok (.sipush 403, 3) := by decide +kernel
theorem dX11_init_35 : decode cX11_init 35 = .ok (.newarray .int, 2) := by decide +kernel
theorem dX11_init_37 : decode cX11_init 37 = .ok (.putfield 24, 3) := by decide +kernel
theorem dX11_init_40 : decode cX11_init 40 = .ok (.aload_n 0, 1) := by decide +kernel
theorem dX11_init_41 : decode cX11_init 41 = .ok (.sipush 403, 3) := by decide +kernel
theorem dX11_init_44 : decode cX11_init 44 = .ok (.newarray .int, 2) := by decide +kernel
theorem dX11_init_46 : decode cX11_init 46 = .ok (.putfield 27, 3) := by decide +kernel
theorem dX11_init_49 : decode cX11_init 49 = .ok (.aload_n 0, 1) := by decide +kernel
theorem dX11_init_50 : decode cX11_init 50 = .ok (.sipush 403, 3) := by decide +kernel
theorem dX11_init_53 : decode cX11_init 53 = .ok (.newarray .long, 2) := by decide +kernel
theorem dX11_init_55 : decode cX11_init 55 = .ok (.putfield 30, 3) := by decide +kernel
theorem dX11_init_58 : decode cX11_init 58 = .ok (.aload_n 0, 1) := by decide +kernel
theorem dX11_init_59 : decode cX11_init 59 = .ok (.bipush 22, 2) := by decide +kernel
theorem dX11_init_61 : decode cX11_init 61 = .ok (.newarray .long, 2) := by decide +kernel
theorem dX11_init_63 : decode cX11_init 63 = .ok (.putfield 34, 3) := by decide +kernel
theorem dX11_init_66 : decode cX11_init 66 = .ok (.aload_n 0, 1) := by decide +kernel
theorem dX11_init_67 : decode cX11_init 67 = .ok (.iconst (-1), 1) := by decide +kernel
theorem dX11_init_68 : decode cX11_init 68 = .ok (.putfield 37, 3) := by decide +kernel
theorem dX11_init_71 : decode cX11_init 71 = .ok (.aload_n 0, 1) := by decide +kernel
theorem dX11_init_72 : decode cX11_init 72 = .ok (.bipush 20, 2) := by decide +kernel
theorem dX11_init_74 : decode cX11_init 74 = .ok (.newarray .long, 2) := by decide +kernel
theorem dX11_init_76 : decode cX11_init 76 = .ok (.putfield 40, 3) := by decide +kernel
theorem dX11_init_79 : decode cX11_init 79 = .ok (.aload_n 0, 1) := by decide +kernel
theorem dX11_init_80 : decode cX11_init 80 = .ok (.bipush 20, 2) := by decide +kernel
theorem dX11_init_82 : decode cX11_init 82 = .ok (.newarray .int, 2) := by decide +kernel
theorem dX11_init_84 : decode cX11_init 84 = .ok (.putfield 43, 3) := by decide +kernel
theorem dX11_init_87 : decode cX11_init 87 = .ok (.aload_n 0, 1) := by decide +kernel
theorem dX11_init_88 : decode cX11_init 88 = .ok (.iconst 2, 1) := by decide +kernel
theorem dX11_init_89 : decode cX11_init 89 = .ok (.newarray .int, 2) := by decide +kernel
theorem dX11_init_91 : decode cX11_init 91 = .ok (.putfield 46, 3) := by decide +kernel
theorem dX11_init_94 : decode cX11_init 94 = .ok (.aload_n 0, 1) := by decide +kernel
theorem dX11_init_95 : decode cX11_init 95 = .ok (.iconst 2, 1) := by decide +kernel
theorem dX11_init_96 : decode cX11_init 96 = .ok (.newarray .int, 2) := by decide +kernel
theorem dX11_init_98 : decode cX11_init 98 = .ok (.putfield 49, 3) := by decide +kernel
theorem dX11_init_101 : decode cX11_init 101 = .ok (.aload_n 0, 1) := by decide +kernel
theorem dX11_init_102 : decode cX11_init 102 = .ok (.bipush 14, 2) := by decide +kernel
theorem dX11_init_104 : decode cX11_init 104 = .ok (.newarray .int, 2) := by decide +kernel
theorem dX11_init_106 : decode cX11_init 106 = .ok (.putfield 52, 3) := by decide +kernel
theorem dX11_init_109 : decode cX11_init 109 = .ok (.aload_n 0, 1) := by decide +kernel
theorem dX11_init_110 : decode cX11_init 110 = .ok (.bipush 14, 2) := by decide +kernel
theorem dX11_init_112 : decode cX11_init 112 = .ok (.newarray .int, 2) := by decide +kernel
theorem dX11_init_114 : decode cX11_init 114 = .ok (.putfield 55, 3) := by decide +kernel
theorem dX11_init_117 : decode cX11_init 117 = .ok (.aload_n 0, 1) := by decide +kernel
theorem dX11_init_118 : decode cX11_init 118 = .ok (.bipush 14, 2) := by decide +kernel
theorem dX11_init_120 : decode cX11_init 120 = .ok (.newarray .int, 2) := by decide +kernel
theorem dX11_init_122 : decode cX11_init 122 = .ok (.putfield 58, 3) := by decide +kernel
theorem dX11_init_125 : decode cX11_init 125 = .ok (.aload_n 0, 1) := by decide +kernel
theorem dX11_init_126 : decode cX11_init 126 = .ok (.iconst 2, 1) := by decide +kernel
theorem dX11_init_127 : decode cX11_init 127 = .ok (.newarray .int, 2) := by decide +kernel
theorem dX11_init_129 : decode cX11_init 129 = .ok (.putfield 61, 3) := by decide +kernel
theorem dX11_init_132 : decode cX11_init 132 = .ok (.aload_n 0, 1) := by decide +kernel
theorem dX11_init_133 : decode cX11_init 133 = .ok (.bipush 14, 2) := by decide +kernel
theorem dX11_init_135 : decode cX11_init 135 = .ok (.newarray .int, 2) := by decide +kernel
theorem dX11_init_137 : decode cX11_init 137 = .ok (.putfield 64, 3) := by decide +kernel
theorem dX11_init_140 : decode cX11_init 140 = .ok (.aload_n 0, 1) := by decide +kernel
theorem dX11_init_141 : decode cX11_init 141 = .ok (.bipush 14, 2) := by decide +kernel
theorem dX11_init_143 : decode cX11_init 143 = .ok (.newarray .int, 2) := by decide +kernel
theorem dX11_init_145 : decode cX11_init 145 = .ok (.putfield 67, 3) := by decide +kernel
theorem dX11_init_148 : decode cX11_init 148 = .ok (.aload_n 0, 1) := by decide +kernel
theorem dX11_init_149 : decode cX11_init 149 = .ok (.iconst 2, 1) := by decide +kernel
theorem dX11_init_150 : decode cX11_init 150 = .ok (.newarray .int, 2) := by decide +kernel
theorem dX11_init_152 : decode cX11_init 152 = .ok (.putfield 70, 3) := by decide +kernel
theorem dX11_init_155 : decode cX11_init 155 = .ok (.aload_n 0, 1) := by decide +kernel
theorem dX11_init_156 : decode cX11_init 156 = .ok (.bipush 24, 2) := by decide +kernel
theorem dX11_init_158 : decode cX11_init 158 = .ok (.newarray .int, 2) := by decide +kernel
theorem dX11_init_160 : decode cX11_init 160 = .ok (.putfield 73, 3) := by decide +kernel
theorem dX11_init_163 : decode cX11_init 163 = .ok (.aload_n 0, 1) := by decide +kernel
theorem dX11_init_164 : decode cX11_init 164 = .ok (.bipush 24, 2) := by decide +kernel
theorem dX11_init_166 : decode cX11_init 166 = .ok (.newarray .int, 2) := by decide +kernel
theorem dX11_init_168 : decode cX11_init 168 = .ok (.putfield 76, 3) := by decide +kernel
theorem dX11_init_171 : decode cX11_init 171 = .ok (.aload_n 0, 1) := by decide +kernel
theorem dX11_init_172 : decode cX11_init 172 = .ok (.bipush 24, 2) := by decide +kernel
theorem dX11_init_174 : decode cX11_init 174 = .ok (.newarray .int, 2) := by decide +kernel
theorem dX11_init_176 : decode cX11_init 176 = .ok (.putfield 79, 3) := by decide +kernel
theorem dX11_init_179 : decode cX11_init 179 = .ok (.aload_n 0, 1) := by decide +kernel
theorem dX11_init_180 : decode cX11_init 180 = .ok (.bipush 24, 2) := by decide +kernel
theorem dX11_init_182 : decode cX11_init 182 = .ok (.newarray .int, 2) := by decide +kernel
theorem dX11_init_184 : decode cX11_init 184 = .ok (.putfield 82, 3) := by decide +kernel
theorem dX11_init_187 : decode cX11_init 187 = .ok (.aload_n 0, 1) := by decide +kernel
theorem dX11_init_188 : decode cX11_init 188 = .ok (.bipush 24, 2) := by decide +kernel
theorem dX11_init_190 : decode cX11_init 190 = .ok (.newarray .int, 2) := by decide +kernel
theorem dX11_init_192 : decode cX11_init 192 = .ok (.putfield 85, 3) := by decide +kernel
theorem dX11_init_195 : decode cX11_init 195 = .ok (.aload_n 0, 1) := by decide +kernel
theorem dX11_init_196 : decode cX11_init 196 = .ok (.iconst 2, 1) := by decide +kernel
theorem dX11_init_197 : decode cX11_init 197 = .ok (.newarray .int, 2) := by decide +kernel
theorem dX11_init_199 : decode cX11_init 199 = .ok (.putfield 88, 3) := by decide +kernel
theorem dX11_init_202 : decode cX11_init 202 = .ok (.aload_n 0, 1) := by decide +kernel
theorem dX11_init_203 : decode cX11_init 203 = .ok (.iconst 2, 1) := by decide +kernel
theorem dX11_init_204 : decode cX11_init 204 = .ok (.newarray .int, 2) := by decide +kernel
theorem dX11_init_206 : decode cX11_init 206 = .ok (.putfield 91, 3) := by decide +kernel
theorem dX11_init_209 : decode cX11_init 209 = .ok (.aload_n 0, 1) := by decide +kernel
theorem dX11_init_210 : decode cX11_init 210 = .ok (.bipush 8, 2) := by decide +kernel
theorem dX11_init_212 : decode cX11_init 212 = .ok (.newarray .int, 2) := by decide +kernel
theorem dX11_init_214 : decode cX11_init 214 = .ok (.putfield 94, 3) := by decide +kernel
theorem dX11_init_217 : decode cX11_init 217 = .ok (.aload_n 0, 1) := by decide +kernel
theorem dX11_init_218 : decode cX11_init 218 = .ok (.bipush 8, 2) := by decide +kernel
theorem dX11_init_220 : decode cX11_init 220 = .ok (.newarray .int, 2) := by decide +kernel
theorem dX11_init_222 : decode cX11_init 222 = .ok (.putfield 97, 3) := by decide +kernel
theorem dX11_init_225 : decode cX11_init 225 = .ok (.aload_n 0, 1) := by decide +kernel
theorem dX11_init_226 : decode cX11_init 226 = .ok (.sipush 260, 3) := by decide +kernel
theorem dX11_init_229 : decode cX11_init 229 = .ok (.newarray .boolean, 2) := by decide +kernel
theorem dX11_init_231 : decode cX11_init 231 = .ok (.putfield 100, 3) := by decide +kernel
theorem dX11_init_234 : decode cX11_init 234 = .ok (.aload_n 0, 1) := by decide +kernel
theorem dX11_init_235 : decode cX11_init 235 = .ok (.sipush 260, 3) := by decide +kernel
theorem dX11_init_238 : decode cX11_init 238 = .ok (.newarray .int, 2) := by decide +kernel
theorem dX11_init_240 : decode cX11_init 240 = .ok (.putfield 104, 3) := by decide +kernel
theorem dX11_init_243 : decode cX11_init 243 = .ok (.aload_n 0, 1) := by decide +kernel
theorem dX11_init_244 : decode cX11_init 244 = .ok (.sipush 260, 3) := by decide +kernel
theorem dX11_init_247 : decode cX11_init 247 = .ok (.newarray .int, 2) := by decide +kernel
theorem dX11_init_249 : decode cX11_init 249 = .ok (.putfield 107, 3) := by decide +kernel
theorem dX11_init_252 : decode cX11_init 252 = .ok (.aload_n 0, 1) := by decide +kernel
theorem dX11_init_253 : decode cX11_init 253 = .ok (.sipush 260, 3) := by decide +kernel
theorem dX11_init_256 : decode cX11_init 256 = .ok (.newarray .int, 2) := by decide +kernel
theorem dX11_init_258 : decode cX11_init 258 = .ok (.putfield 110, 3) := by decide +kernel
theorem dX11_init_261 : decode cX11_init 261 = .ok (.aload_n 0, 1) := by decide +kernel
theorem dX11_init_262 : decode cX11_init 262 = .ok (.sipush 260, 3) := by decide +kernel
theorem dX11_init_265 : decode cX11_init 265 = .ok (.newarray .int, 2) := by decide +kernel
theorem dX11_init_267 : decode cX11_init 267 = .ok (.putfield 113, 3) := by decide +kernel
theorem dX11_init_270 : decode cX11_init 270 = .ok (.aload_n 0, 1) := by decide +kernel
theorem dX11_init_271 : decode cX11_init 271 = .ok (.sipush 840, 3) := by decide +kernel
theorem dX11_init_274 : decode cX11_init 274 = .ok (.newarray .int, 2) := by decide +kernel
theorem dX11_init_276 : decode cX11_init 276 = .ok (.putfield 116, 3) := by decide +kernel
theorem dX11_init_279 : decode cX11_init 279 = .ok (.aload_n 0, 1) := by decide +kernel
theorem dX11_init_280 : decode cX11_init 280 = .ok (.sipush 840, 3) := by decide +kernel
theorem dX11_init_283 : decode cX11_init 283 = .ok (.newarray .int, 2) := by decide +kernel
theorem dX11_init_285 : decode cX11_init 285 = .ok (.putfield 119, 3) := by decide +kernel
theorem dX11_init_288 : decode cX11_init 288 = .ok (.aload_n 0, 1) := by decide +kernel
theorem dX11_init_289 : decode cX11_init 289 = .ok (.bipush 64, 2) := by decide +kernel
theorem dX11_init_291 : decode cX11_init 291 = .ok (.newarray .int, 2) := by decide +kernel
theorem dX11_init_293 : decode cX11_init 293 = .ok (.putfield 122, 3) := by decide +kernel
theorem dX11_init_296 : decode cX11_init 296 = .ok (.aload_n 0, 1) := by decide +kernel
theorem dX11_init_297 : decode cX11_init 297 = .ok (.bipush 9, 2) := by decide +kernel
theorem dX11_init_299 : decode cX11_init 299 = .ok (.newarray .int, 2) := by decide +kernel
theorem dX11_init_301 : decode cX11_init 301 = .ok (.putfield 125, 3) := by decide +kernel
theorem dX11_init_304 : decode cX11_init 304 = .ok (.aload_n 0, 1) := by decide +kernel
theorem dX11_init_305 : decode cX11_init 305 = .ok (.sipush 400, 3) := by decide +kernel
theorem dX11_init_308 : decode cX11_init 308 = .ok (.newarray .int, 2) := by decide +kernel
theorem dX11_init_310 : decode cX11_init 310 = .ok (.putfield 128, 3) := by decide +kernel
theorem dX11_init_313 : decode cX11_init 313 = .ok (.aload_n 0, 1) := by decide +kernel
theorem dX11_init_314 : decode cX11_init 314 = .ok (.bipush 117, 2) := by decide +kernel
theorem dX11_init_316 : decode cX11_init 316 = .ok (.newarray .int, 2) := by decide +kernel
theorem dX11_init_318 : decode cX11_init 318 = .ok (.putfield 131, 3) := by decide +kernel
theorem dX11_init_321 : decode cX11_init 321 = .ok (.aload_n 0, 1) := by decide +kernel
theorem dX11_init_322 : decode cX11_init 322 = .ok (.bipush 117, 2) := by decide +kernel
theorem dX11_init_324 : decode cX11_init 324 = .ok (.newarray .int, 2) := by decide +kernel
theorem dX11_init_326 : decode cX11_init 326 = .ok (.putfield 134, 3) := by decide +kernel
theorem dX11_init_329 : decode cX11_init 329 = .ok (.aload_n 0, 1) := by decide +kernel
theorem dX11_init_330 : decode cX11_init 330 = .ok (.bipush 7, 2) := by decide +kernel
theorem dX11_init_332 : decode cX11_init 332 = .ok (.newarray .int, 2) := by decide +kernel
theorem dX11_init_334 : decode cX11_init 334 = .ok (.putfield 137, 3) := by decide +kernel
theorem dX11_init_337 : decode cX11_init 337 = .ok (.aload_n 0, 1) := by decide +kernel
theorem dX11_init_338 : decode cX11_init 338 = .ok (.bipush 20, 2) := by decide +kernel
theorem dX11_init_340 : decode cX11_init 340 = .ok (.newarray .boolean, 2) := by decide +kernel
theorem dX11_init_342 : decode cX11_init 342 = .ok (.putfield 140, 3) := by decide +kernel
theorem dX11_init_345 : decode cX11_init 345 = .ok (.aload_n 0, 1) := by decide +kernel
theorem dX11_init_346 : decode cX11_init 346 = .ok (.bipush 20, 2) := by decide +kernel
theorem dX11_init_348 : decode cX11_init 348 = .ok (.newarray .boolean, 2) := by decide +kernel
theorem dX11_init_350 : decode cX11_init 350 = .ok (.putfield 143, 3) := by decide +kernel
theorem dX11_init_353 : decode cX11_init 353 = .ok (.aload_n 0, 1) := by decide +kernel
theorem dX11_init_354 : decode cX11_init 354 = .ok (.sipush 3510, 3) := by decide +kernel
theorem dX11_init_357 : decode cX11_init 357 = .ok (.newarray .int, 2) := by decide +kernel
theorem dX11_init_359 : decode cX11_init 359 = .ok (.putfield 146, 3) := by decide +kernel
theorem dX11_init_362 : decode cX11_init 362 = .ok (.aload_n 0, 1) := by decide +kernel
theorem dX11_init_363 : decode cX11_init 363 = .ok (.bipush 7, 2) := by decide +kernel
theorem dX11_init_365 : decode cX11_init 365 = .ok (.newarray .int, 2) := by decide +kernel
theorem dX11_init_367 : decode cX11_init 367 = .ok (.putfield 149, 3) := by decide +kernel
theorem dX11_init_370 : decode cX11_init 370 = .ok (.aload_n 0, 1) := by decide +kernel
theorem dX11_init_371 : decode cX11_init 371 = .ok (.sipush 896, 3) := by decide +kernel
theorem dX11_init_374 : decode cX11_init 374 = .ok (.newarray .int, 2) := by decide +kernel
theorem dX11_init_376 : decode cX11_init 376 = .ok (.putfield 152, 3) := by decide +kernel
theorem dX11_init_379 : decode cX11_init 379 = .ok (.aload_n 0, 1) := by decide +kernel
theorem dX11_init_380 : decode cX11_init 380 = .ok (.bipush 49, 2) := by decide +kernel
theorem dX11_init_382 : decode cX11_init 382 = .ok (.newarray .int, 2) := by decide +kernel
theorem dX11_init_384 : decode cX11_init 384 = .ok (.putfield 155, 3) := by decide +kernel
theorem dX11_init_387 : decode cX11_init 387 = .ok (.aload_n 0, 1) := by decide +kernel
theorem dX11_init_388 : decode cX11_init 388 = .ok (.bipush 7, 2) := by decide +kernel
theorem dX11_init_390 : decode cX11_init 390 = .ok (.newarray .int, 2) := by decide +kernel
theorem dX11_init_392 : decode cX11_init 392 = .ok (.putfield 158, 3) := by decide +kernel
theorem dX11_init_395 : decode cX11_init 395 = .ok (.aload_n 0, 1) := by decide +kernel
theorem dX11_init_396 : decode cX11_init 396 = .ok (.bipush 20, 2) := by decide +kernel
theorem dX11_init_398 : decode cX11_init 398 = .ok (.newarray .int, 2) := by decide +kernel
theorem dX11_init_400 : decode cX11_init 400 = .ok (.putfield 161, 3) := by decide +kernel
theorem dX11_init_403 : decode cX11_init 403 = .ok (.aload_n 0, 1) := by decide +kernel
theorem dX11_init_404 : decode cX11_init 404 = .ok (.bipush 20, 2) := by decide +kernel
theorem dX11_init_406 : decode cX11_init 406 = .ok (.newarray .int, 2) := by decide +kernel
theorem dX11_init_408 : decode cX11_init 408 = .ok (.putfield 164, 3) := by decide +kernel
theorem dX11_init_411 : decode cX11_init 411 = .ok (.aload_n 0, 1) := by decide +kernel
theorem dX11_init_412 : decode cX11_init 412 = .ok (.iconst 3, 1) := by decide +kernel
theorem dX11_init_413 : decode cX11_init 413 = .ok (.newarray .boolean, 2) := by decide +kernel
theorem dX11_init_415 : decode cX11_init 415 = .ok (.putfield 167, 3) := by decide +kernel
theorem dX11_init_418 : decode cX11_init 418 = .ok (.aload_n 0, 1) := by decide +kernel
theorem dX11_init_419 : decode cX11_init 419 = .ok (.sipush 351, 3) := by decide +kernel
theorem dX11_init_422 : decode cX11_init 422 = .ok (.newarray .int, 2) := by decide +kernel
theorem dX11_init_424 : decode cX11_init 424 = .ok (.putfield 170, 3) := by decide +kernel
theorem dX11_init_427 : decode cX11_init 427 = .ok (.aload_n 0, 1) := by decide +kernel
theorem dX11_init_428 : decode cX11_init 428 = .ok (.iconst 0, 1) := by decide +kernel
theorem dX11_init_429 : decode cX11_init 429 = .ok (.invokevirtual 173, 3) := by decide +kernel
theorem dX11_init_432 : decode cX11_init 432 = .ok (.aload_n 0, 1) := by decide +kernel
theorem dX11_init_433 : decode cX11_init 433 = .ok (.getfield 34, 3) := by decide +kernel
theorem dX11_init_436 : decode cX11_init 436 = .ok (.iconst 0, 1) := by decide +kernel
theorem dX11_init_437 : decode cX11_init 437 = .ok (.bipush 112, 2) := by decide +kernel
theorem dX11_init_439 : decode cX11_init 439 = .ok (.bipush 101, 2) := by decide +kernel
theorem dX11_init_441 : decode cX11_init 441 = .ok (.bipush 114, 2) := by decide +kernel
theorem dX11_init_443 : decode cX11_init 443 = .ok (.bipush 115, 2) := by decide +kernel
theorem dX11_init_445 : decode cX11_init 445 = .ok (.bipush 111, 2) := by decide +kernel
theorem dX11_init_447 : decode cX11_init 447 = .ok (.bipush 110, 2) := by decide +kernel
theorem dX11_init_449 : decode cX11_init 449 = .ok (.iconst 0, 1) := by decide +kernel
theorem dX11_init_450 : decode cX11_init 450 = .ok (.invokestatic 177, 3) := by decide +kernel
theorem dX11_init_453 : decode cX11_init 453 = .ok (.lastore, 1) := by decide +kernel
theorem dX11_init_454 : decode cX11_init 454 = .ok (.aload_n 0, 1) := by decide +kernel
theorem dX11_init_455 : decode cX11_init 455 = .ok (.getfield 34, 3) := by decide +kernel
theorem dX11_init_458 : decode cX11_init 458 = .ok (.iconst 1, 1) := by decide +kernel
theorem dX11_init_459 : decode cX11_init 459 = .ok (.bipush 112, 2) := by decide +kernel
theorem dX11_init_461 : decode cX11_init 461 = .ok (.bipush 108, 2) := by decide +kernel
theorem dX11_init_463 : decode cX11_init 463 = .ok (.bipush 111, 2) := by decide +kernel
theorem dX11_init_465 : decode cX11_init 465 = .ok (.bipush 116, 2) := by decide +kernel
theorem dX11_init_467 : decode cX11_init 467 = .ok (.iconst 0, 1) := by decide +kernel
theorem dX11_init_468 : decode cX11_init 468 = .ok (.iconst 0, 1) := by decide +kernel
theorem dX11_init_469 : decode cX11_init 469 = .ok (.iconst 0, 1) := by decide +kernel
theorem dX11_init_470 : decode cX11_init 470 = .ok (.invokestatic 177, 3) := by decide +kernel
theorem dX11_init_473 : decode cX11_init 473 = .ok (.lastore, 1) := by decide +kernel
theorem dX11_init_474 : decode cX11_init 474 = .ok (.aload_n 0, 1) := by decide +kernel
theorem dX11_init_475 : decode cX11_init 475 = .ok (.getfield 34, 3) := by decide +kernel
theorem dX11_init_478 : decode cX11_init 478 = .ok (.iconst 2, 1) := by decide +kernel
theorem dX11_init_479 : decode cX11_init 479 = .ok (.bipush 119, 2) := by decide +kernel
theorem dX11_init_481 : decode cX11_init 481 = .ok (.bipush 105, 2) := by decide +kernel
theorem dX11_init_483 : decode cX11_init 483 = .ok (.bipush 116, 2) := by decide +kernel
theorem dX11_init_485 : decode cX11_init 485 = .ok (.bipush 110, 2) := by decide +kernel
theorem dX11_init_487 : decode cX11_init 487 = .ok (.bipush 101, 2) := by decide +kernel
theorem dX11_init_489 : decode cX11_init 489 = .ok (.bipush 115, 2) := by decide +kernel
theorem dX11_init_491 : decode cX11_init 491 = .ok (.bipush 115, 2) := by decide +kernel
theorem dX11_init_493 : decode cX11_init 493 = .ok (.invokestatic 177, 3) := by decide +kernel
theorem dX11_init_496 : decode cX11_init 496 = .ok (.lastore, 1) := by decide +kernel
theorem dX11_init_497 : decode cX11_init 497 = .ok (.aload_n 0, 1) := by decide +kernel
theorem dX11_init_498 : decode cX11_init 498 = .ok (.getfield 34, 3) := by decide +kernel
theorem dX11_init_501 : decode cX11_init 501 = .ok (.iconst 3, 1) := by decide +kernel
theorem dX11_init_502 : decode cX11_init 502 = .ok (.bipush 103, 2) := by decide +kernel
theorem dX11_init_504 : decode cX11_init 504 = .ok (.bipush 105, 2) := by decide +kernel
theorem dX11_init_506 : decode cX11_init 506 = .ok (.bipush 118, 2) := by decide +kernel
theorem dX11_init_508 : decode cX11_init 508 = .ok (.bipush 105, 2) := by decide +kernel
theorem dX11_init_510 : decode cX11_init 510 = .ok (.bipush 110, 2) := by decide +kernel
theorem dX11_init_512 : decode cX11_init 512 = .ok (.bipush 103, 2) := by decide +kernel
theorem dX11_init_514 : decode cX11_init 514 = .ok (.iconst 0, 1) := by decide +kernel
theorem dX11_init_515 : decode cX11_init 515 = .ok (.invokestatic 177, 3) := by decide +kernel
theorem dX11_init_518 : decode cX11_init 518 = .ok (.lastore, 1) := by decide +kernel
theorem dX11_init_519 : decode cX11_init 519 = .ok (.aload_n 0, 1) := by decide +kernel
theorem dX11_init_520 : decode cX11_init 520 = .ok (.getfield 34, 3) := by decide +kernel
theorem dX11_init_523 : decode cX11_init 523 = .ok (.iconst 4, 1) := by decide +kernel
theorem dX11_init_524 : decode cX11_init 524 = .ok (.bipush 115, 2) := by decide +kernel
theorem dX11_init_526 : decode cX11_init 526 = .ok (.bipush 119, 2) := by decide +kernel
theorem dX11_init_528 : decode cX11_init 528 = .ok (.bipush 101, 2) := by decide +kernel
theorem dX11_init_530 : decode cX11_init 530 = .ok (.bipush 97, 2) := by decide +kernel
theorem dX11_init_532 : decode cX11_init 532 = .ok (.bipush 114, 2) := by decide +kernel
theorem dX11_init_534 : decode cX11_init 534 = .ok (.bipush 115, 2) := by decide +kernel
theorem dX11_init_536 : decode cX11_init 536 = .ok (.iconst 0, 1) := by decide +kernel
theorem dX11_init_537 : decode cX11_init 537 = .ok (.invokestatic 177, 3) := by decide +kernel
theorem dX11_init_540 : decode cX11_init 540 = .ok (.lastore, 1) := by decide +kernel
theorem dX11_init_541 : decode cX11_init 541 = .ok (.aload_n 0, 1) := by decide +kernel
theorem dX11_init_542 : decode cX11_init 542 = .ok (.getfield 34, 3) := by decide +kernel
theorem dX11_init_545 : decode cX11_init 545 = .ok (.iconst 5, 1) := by decide +kernel
theorem dX11_init_546 : decode cX11_init 546 = .ok (.bipush 100, 2) := by decide +kernel
theorem dX11_init_548 : decode cX11_init 548 = .ok (.bipush 105, 2) := by decide +kernel
theorem dX11_init_550 : decode cX11_init 550 = .ok (.bipush 101, 2) := by decide +kernel
theorem dX11_init_552 : decode cX11_init 552 = .ok (.bipush 115, 2) := by decide +kernel
theorem dX11_init_554 : decode cX11_init 554 = .ok (.iconst 0, 1) := by decide +kernel
theorem dX11_init_555 : decode cX11_init 555 = .ok (.iconst 0, 1) := by decide +kernel
theorem dX11_init_556 : decode cX11_init 556 = .ok (.iconst 0, 1) := by decide +kernel
theorem dX11_init_557 : decode cX11_init 557 = .ok (.invokestatic 177, 3) := by decide +kernel
theorem dX11_init_560 : decode cX11_init 560 = .ok (.lastore, 1) := by decide +kernel
theorem dX11_init_561 : decode cX11_init 561 = .ok (.aload_n 0, 1) := by decide +kernel
theorem dX11_init_562 : decode cX11_init 562 = .ok (.getfield 34, 3) := by decide +kernel
theorem dX11_init_565 : decode cX11_init 565 = .ok (.bipush 6, 2) := by decide +kernel
theorem dX11_init_567 : decode cX11_init 567 = .ok (.bipush 119, 2) := by decide +kernel
theorem dX11_init_569 : decode cX11_init 569 = .ok (.bipush 97, 2) := by decide +kernel
theorem dX11_init_571 : decode cX11_init 571 = .ok (.bipush 108, 2) := by decide +kernel
theorem dX11_init_573 : decode cX11_init 573 = .ok (.bipush 107, 2) := by decide +kernel
theorem dX11_init_575 : decode cX11_init 575 = .ok (.bipush 115, 2) := by decide +kernel
theorem dX11_init_577 : decode cX11_init 577 = .ok (.iconst 0, 1) := by decide +kernel
theorem dX11_init_578 : decode cX11_init 578 = .ok (.iconst 0, 1) := by decide +kernel
theorem dX11_init_579 : decode cX11_init 579 = .ok (.invokestatic 177, 3) := by decide +kernel
theorem dX11_init_582 : decode cX11_init 582 = .ok (.lastore, 1) := by decide +kernel
theorem dX11_init_583 : decode cX11_init 583 = .ok (.aload_n 0, 1) := by decide +kernel
theorem dX11_init_584 : decode cX11_init 584 = .ok (.getfield 34, 3) := by decide +kernel
theorem dX11_init_587 : decode cX11_init 587 = .ok (.bipush 7, 2) := by decide +kernel
theorem dX11_init_589 : decode cX11_init 589 = .ok (.bipush 97, 2) := by decide +kernel
theorem dX11_init_591 : decode cX11_init 591 = .ok (.bipush 115, 2) := by decide +kernel
theorem dX11_init_593 : decode cX11_init 593 = .ok (.bipush 107, 2) := by decide +kernel
theorem dX11_init_595 : decode cX11_init 595 = .ok (.bipush 115, 2) := by decide +kernel
theorem dX11_init_597 : decode cX11_init 597 = .ok (.iconst 0, 1) := by decide +kernel
theorem dX11_init_598 : decode cX11_init 598 = .ok (.iconst 0, 1) := by decide +kernel
theorem dX11_init_599 : decode cX11_init 599 = .ok (.iconst 0, 1) := by decide +kernel
theorem dX11_init_600 : decode cX11_init 600 = .ok (.invokestatic 177, 3) := by decide +kernel
theorem dX11_init_603 : decode cX11_init 603 = .ok (.lastore, 1) := by decide +kernel
theorem dX11_init_604 : decode cX11_init 604 = .ok (.aload_n 0, 1) := by decide +kernel
theorem dX11_init_605 : decode cX11_init 605 = .ok (.getfield 34, 3) := by decide +kernel
theorem dX11_init_608 : decode cX11_init 608 = .ok (.bipush 8, 2) := by decide +kernel
theorem dX11_init_610 : decode cX11_init 610 = .ok (.bipush 110, 2) := by decide +kernel
theorem dX11_init_612 : decode cX11_init 612 = .ok (.bipush 101, 2) := by decide +kernel
theorem dX11_init_614 : decode cX11_init 614 = .ok (.bipush 101, 2) := by decide +kernel
theorem dX11_init_616 : decode cX11_init 616 = .ok (.bipush 100, 2) := by decide +kernel
theorem dX11_init_618 : decode cX11_init 618 = .ok (.bipush 115, 2) := by decide +kernel
theorem dX11_init_620 : decode cX11_init 620 = .ok (.iconst 0, 1) := by decide +kernel
theorem dX11_init_621 : decode cX11_init 621 = .ok (.iconst 0, 1) := by decide +kernel
theorem dX11_init_622 : decode cX11_init 622 = .ok (.invokestatic 177, 3) := by decide +kernel
theorem dX11_init_625 : decode cX11_init 625 = .ok (.lastore, 1) := by decide +kernel
theorem dX11_init_626 : decode cX11_init 626 = .ok (.aload_n 0, 1) := by decide +kernel
theorem dX11_init_627 : decode cX11_init 627 = .ok (.getfield 34, 3) := by decide +kernel
theorem dX11_init_630 : decode cX11_init 630 = .ok (.bipush 9, 2) := by decide +kernel
theorem dX11_init_632 : decode cX11_init 632 = .ok (.bipush 115, 2) := by decide +kernel
theorem dX11_init_634 : decode cX11_init 634 = .ok (.bipush 101, 2) := by decide +kernel
theorem dX11_init_636 : decode cX11_init 636 = .ok (.bipush 101, 2) := by decide +kernel
theorem dX11_init_638 : decode cX11_init 638 = .ok (.bipush 100, 2) := by decide +kernel
theorem dX11_init_640 : decode cX11_init 640 = .ok (.iconst 0, 1) := by decide +kernel
theorem dX11_init_641 : decode cX11_init 641 = .ok (.iconst 0, 1) := by decide +kernel
theorem dX11_init_642 : decode cX11_init 642 = .ok (.iconst 0, 1) := by decide +kernel
theorem dX11_init_643 : decode cX11_init 643 = .ok (.invokestatic 177, 3) := by decide +kernel
theorem dX11_init_646 : decode cX11_init 646 = .ok (.lastore, 1) := by decide +kernel
theorem dX11_init_647 : decode cX11_init 647 = .ok (.aload_n 0, 1) := by decide +kernel
theorem dX11_init_648 : decode cX11_init 648 = .ok (.getfield 34, 3) := by decide +kernel
theorem dX11_init_651 : decode cX11_init 651 = .ok (.bipush 10, 2) := by decide +kernel
theorem dX11_init_653 : decode cX11_init 653 = .ok (.bipush 105, 2) := by decide +kernel
theorem dX11_init_655 : decode cX11_init 655 = .ok (.bipush 102, 2) := by decide +kernel
theorem dX11_init_657 : decode cX11_init 657 = .ok (.iconst 0, 1) := by decide +kernel
theorem dX11_init_658 : decode cX11_init 658 = .ok (.iconst 0, 1) := by decide +kernel
theorem dX11_init_659 : decode cX11_init 659 = .ok (.iconst 0, 1) := by decide +kernel
theorem dX11_init_660 : decode cX11_init 660 = .ok (.iconst 0, 1) := by decide +kernel
theorem dX11_init_661 : decode cX11_init 661 = .ok (.iconst 0, 1) := by decide +kernel
theorem dX11_init_662 : decode cX11_init 662 = .ok (.invokestatic 177, 3) := by decide +kernel
theorem dX11_init_665 : decode cX11_init 665 = .ok (.lastore, 1) := by decide +kernel
theorem dX11_init_666 : decode cX11_init 666 = .ok (.aload_n 0, 1) := by decide +kernel
theorem dX11_init_667 : decode cX11_init 667 = .ok (.getfield 34, 3) := by decide +kernel
theorem dX11_init_670 : decode cX11_init 670 = .ok (.bipush 11, 2) := by decide +kernel
theorem dX11_init_672 : decode cX11_init 672 = .ok (.bipush 116, 2) := by decide +kernel
theorem dX11_init_674 : decode cX11_init 674 = .ok (.bipush 104, 2) := by decide +kernel
theorem dX11_init_676 : decode cX11_init 676 = .ok (.bipush 101, 2) := by decide +kernel
theorem dX11_init_678 : decode cX11_init 678 = .ok (.bipush 110, 2) := by decide +kernel
theorem dX11_init_680 : decode cX11_init 680 = .ok (.iconst 0, 1) := by decide +kernel
theorem dX11_init_681 : decode cX11_init 681 = .ok (.iconst 0, 1) := by decide +kernel
theorem dX11_init_682 : decode cX11_init 682 = .ok (.iconst 0, 1) := by decide +kernel
theorem dX11_init_683 : decode cX11_init 683 = .ok (.invokestatic 177, 3) := by decide +kernel
theorem dX11_init_686 : decode cX11_init 686 = .ok (.lastore, 1) := by decide +kernel
theorem dX11_init_687 : decode cX11_init 687 = .ok (.aload_n 0, 1) := by decide +kernel
theorem dX11_init_688 : decode cX11_init 688 = .ok (.getfield 34, 3) := by decide +kernel
theorem dX11_init_691 : decode cX11_init 691 = .ok (.bipush 12, 2) := by decide +kernel
theorem dX11_init_693 : decode cX11_init 693 = .ok (.bipush 101, 2) := by decide +kernel
theorem dX11_init_695 : decode cX11_init 695 = .ok (.bipush 108, 2) := by decide +kernel
theorem dX11_init_697 : decode cX11_init 697 = .ok (.bipush 115, 2) := by decide +kernel
theorem dX11_init_699 : decode cX11_init 699 = .ok (.bipush 101, 2) := by decide +kernel
theorem dX11_init_701 : decode cX11_init 701 = .ok (.iconst 0, 1) := by decide +kernel
theorem dX11_init_702 : decode cX11_init 702 = .ok (.iconst 0, 1) := by decide +kernel
theorem dX11_init_703 : decode cX11_init 703 = .ok (.iconst 0, 1) := by decide +kernel
theorem dX11_init_704 : decode cX11_init 704 = .ok (.invokestatic 177, 3) := by decide +kernel
theorem dX11_init_707 : decode cX11_init 707 = .ok (.lastore, 1) := by decide +kernel
theorem dX11_init_708 : decode cX11_init 708 = .ok (.aload_n 0, 1) := by decide +kernel
theorem dX11_init_709 : decode cX11_init 709 = .ok (.getfield 34, 3) := by decide +kernel
theorem dX11_init_712 : decode cX11_init 712 = .ok (.bipush 13, 2) := by decide +kernel
theorem dX11_init_714 : decode cX11_init 714 = .ok (.bipush 97, 2) := by decide +kernel
theorem dX11_init_716 : decode cX11_init 716 = .ok (.bipush 103, 2) := by decide +kernel
theorem dX11_init_718 : decode cX11_init 718 = .ok (.bipush 101, 2) := by decide +kernel
theorem dX11_init_720 : decode cX11_init 720 = .ok (.iconst 0, 1) := by decide +kernel
theorem dX11_init_721 : decode cX11_init 721 = .ok (.iconst 0, 1) := by decide +kernel
theorem dX11_init_722 : decode cX11_init 722 = .ok (.iconst 0, 1) := by decide +kernel
theorem dX11_init_723 : decode cX11_init 723 = .ok (.iconst 0, 1) := by decide +kernel
theorem dX11_init_724 : decode cX11_init 724 = .ok (.invokestatic 177, 3) := by decide +kernel
theorem dX11_init_727 : decode cX11_init 727 = .ok (.lastore, 1) := by decide +kernel
theorem dX11_init_728 : decode cX11_init 728 = .ok (.aload_n 0, 1) := by decide +kernel
theorem dX11_init_729 : decode cX11_init 729 = .ok (.getfield 34, 3) := by decide +kernel
theorem dX11_init_732 : decode cX11_init 732 = .ok (.bipush 14, 2) := by decide +kernel
theorem dX11_init_734 : decode cX11_init 734 = .ok (.bipush 109, 2) := by decide +kernel
theorem dX11_init_736 : decode cX11_init 736 = .ok (.bipush 101, 2) := by decide +kernel
theorem dX11_init_738 : decode cX11_init 738 = .ok (.bipush 109, 2) := by decide +kernel
theorem dX11_init_740 : decode cX11_init 740 = .ok (.bipush 111, 2) := by decide +kernel
theorem dX11_init_742 : decode cX11_init 742 = .ok (.bipush 114, 2) := by decide +kernel
theorem dX11_init_744 : decode cX11_init 744 = .ok (.bipush 121, 2) := by decide +kernel
theorem dX11_init_746 : decode cX11_init 746 = .ok (.iconst 0, 1) := by decide +kernel
theorem dX11_init_747 : decode cX11_init 747 = .ok (.invokestatic 177, 3) := by decide +kernel
theorem dX11_init_750 : decode cX11_init 750 = .ok (.lastore, 1) := by decide +kernel
theorem dX11_init_751 : decode cX11_init 751 = .ok (.aload_n 0, 1) := by decide +kernel
theorem dX11_init_752 : decode cX11_init 752 = .ok (.getfield 34, 3) := by decide +kernel
theorem dX11_init_755 : decode cX11_init 755 = .ok (.bipush 15, 2) := by decide +kernel
theorem dX11_init_757 : decode cX11_init 757 = .ok (.bipush 115, 2) := by decide +kernel
theorem dX11_init_759 : decode cX11_init 759 = .ok (.bipush 105, 2) := by decide +kernel
theorem dX11_init_761 : decode cX11_init 761 = .ok (.bipush 110, 2) := by decide +kernel
theorem dX11_init_763 : decode cX11_init 763 = .ok (.bipush 99, 2) := by decide +kernel
theorem dX11_init_765 : decode cX11_init 765 = .ok (.bipush 101, 2) := by decide +kernel
theorem dX11_init_767 : decode cX11_init 767 = .ok (.iconst 0, 1) := by decide +kernel
theorem dX11_init_768 : decode cX11_init 768 = .ok (.iconst 0, 1) := by decide +kernel
theorem dX11_init_769 : decode cX11_init 769 = .ok (.invokestatic 177, 3) := by decide +kernel
theorem dX11_init_772 : decode cX11_init 772 = .ok (.lastore, 1) := by decide +kernel
theorem dX11_init_773 : decode cX11_init 773 = .ok (.aload_n 0, 1) := by decide +kernel
theorem dX11_init_774 : decode cX11_init 774 = .ok (.getfield 34, 3) := by decide +kernel
theorem dX11_init_777 : decode cX11_init 777 = .ok (.bipush 16, 2) := by decide +kernel
theorem dX11_init_779 : decode cX11_init 779 = .ok (.bipush 121, 2) := by decide +kernel
theorem dX11_init_781 : decode cX11_init 781 = .ok (.bipush 101, 2) := by decide +kernel
theorem dX11_init_783 : decode cX11_init 783 = .ok (.bipush 97, 2) := by decide +kernel
theorem dX11_init_785 : decode cX11_init 785 = .ok (.bipush 114, 2) := by decide +kernel
theorem dX11_init_787 : decode cX11_init 787 = .ok (.iconst 0, 1) := by decide +kernel
theorem dX11_init_788 : decode cX11_init 788 = .ok (.iconst 0, 1) := by decide +kernel
theorem dX11_init_789 : decode cX11_init 789 = .ok (.iconst 0, 1) := by decide +kernel
theorem dX11_init_790 : decode cX11_init 790 = .ok (.invokestatic 177, 3) := by decide +kernel
theorem dX11_init_793 : decode cX11_init 793 = .ok (.lastore, 1) := by decide +kernel
theorem dX11_init_794 : decode cX11_init 794 = .ok (.aload_n 0, 1) := by decide +kernel
theorem dX11_init_795 : decode cX11_init 795 = .ok (.getfield 34, 3) := by decide +kernel
theorem dX11_init_798 : decode cX11_init 798 = .ok (.bipush 17, 2) := by decide +kernel
theorem dX11_init_800 : decode cX11_init 800 = .ok (.bipush 119, 2) := by decide +kernel
theorem dX11_init_802 : decode cX11_init 802 = .ok (.bipush 104, 2) := by decide +kernel
theorem dX11_init_804 : decode cX11_init 804 = .ok (.bipush 105, 2) := by decide +kernel
theorem dX11_init_806 : decode cX11_init 806 = .ok (.bipush 99, 2) := by decide +kernel
theorem dX11_init_808 : decode cX11_init 808 = .ok (.bipush 104, 2) := by decide +kernel
theorem dX11_init_810 : decode cX11_init 810 = .ok (.iconst 0, 1) := by decide +kernel
theorem dX11_init_811 : decode cX11_init 811 = .ok (.iconst 0, 1) := by decide +kernel
theorem dX11_init_812 : decode cX11_init 812 = .ok (.invokestatic 177, 3) := by decide +kernel
theorem dX11_init_815 : decode cX11_init 815 = .ok (.lastore, 1) := by decide +kernel
theorem dX11_init_816 : decode cX11_init 816 = .ok (.aload_n 0, 1) := by decide +kernel
theorem dX11_init_817 : decode cX11_init 817 = .ok (.getfield 34, 3) := by decide +kernel
theorem dX11_init_820 : decode cX11_init 820 = .ok (.bipush 18, 2) := by decide +kernel
theorem dX11_init_822 : decode cX11_init 822 = .ok (.bipush 115, 2) := by decide +kernel
theorem dX11_init_824 : decode cX11_init 824 = .ok (.bipush 101, 2) := by decide +kernel
theorem dX11_init_826 : decode cX11_init 826 = .ok (.bipush 101, 2) := by decide +kernel
theorem dX11_init_828 : decode cX11_init 828 = .ok (.bipush 110, 2) := by decide +kernel
theorem dX11_init_830 : decode cX11_init 830 = .ok (.iconst 0, 1) := by decide +kernel
theorem dX11_init_831 : decode cX11_init 831 = .ok (.iconst 0, 1) := by decide +kernel
theorem dX11_init_832 : decode cX11_init 832 = .ok (.iconst 0, 1) := by decide +kernel
theorem dX11_init_833 : decode cX11_init 833 = .ok (.invokestatic 177, 3) := by decide +kernel
theorem dX11_init_836 : decode cX11_init 836 = .ok (.lastore, 1) := by decide +kernel
theorem dX11_init_837 : decode cX11_init 837 = .ok (.aload_n 0, 1) := by decide +kernel
theorem dX11_init_838 : decode cX11_init 838 = .ok (.getfield 34, 3) := by decide +kernel
theorem dX11_init_841 : decode cX11_init 841 = .ok (.bipush 19, 2) := by decide +kernel
theorem dX11_init_843 : decode cX11_init 843 = .ok (.bipush 102, 2) := by decide +kernel
theorem dX11_init_845 : decode cX11_init 845 = .ok (.bipush 97, 2) := by decide +kernel
theorem dX11_init_847 : decode cX11_init 847 = .ok (.bipush 114, 2) := by decide +kernel
theorem dX11_init_849 : decode cX11_init 849 = .ok (.iconst 0, 1) := by decide +kernel
theorem dX11_init_850 : decode cX11_init 850 = .ok (.iconst 0, 1) := by decide +kernel
theorem dX11_init_851 : decode cX11_init 851 = .ok (.iconst 0, 1) := by decide +kernel
theorem dX11_init_852 : decode cX11_init 852 = .ok (.iconst 0, 1) := by decide +kernel
theorem dX11_init_853 : decode cX11_init 853 = .ok (.invokestatic 177, 3) := by decide +kernel
theorem dX11_init_856 : decode cX11_init 856 = .ok (.lastore, 1) := by decide +kernel
theorem dX11_init_857 : decode cX11_init 857 = .ok (.aload_n 0, 1) := by decide +kernel
theorem dX11_init_858 : decode cX11_init 858 = .ok (.getfield 34, 3) := by decide +kernel
theorem dX11_init_861 : decode cX11_init 861 = .ok (.bipush 20, 2) := by decide +kernel
theorem dX11_init_863 : decode cX11_init 863 = .ok (.bipush 97, 2) := by decide +kernel
theorem dX11_init_865 : decode cX11_init 865 = .ok (.bipush 99, 2) := by decide +kernel
theorem dX11_init_867 : decode cX11_init 867 = .ok (.bipush 114, 2) := by decide +kernel
theorem dX11_init_869 : decode cX11_init 869 = .ok (.bipush 111, 2) := by decide +kernel
theorem dX11_init_871 : decode cX11_init 871 = .ok (.bipush 115, 2) := by decide +kernel
theorem dX11_init_873 : decode cX11_init 873 = .ok (.bipush 115, 2) := by decide +kernel
theorem dX11_init_875 : decode cX11_init 875 = .ok (.iconst 0, 1) := by decide +kernel
theorem dX11_init_876 : decode cX11_init 876 = .ok (.invokestatic 177, 3) := by decide +kernel
theorem dX11_init_879 : decode cX11_init 879 = .ok (.lastore, 1) := by decide +kernel
theorem dX11_init_880 : decode cX11_init 880 = .ok (.aload_n 0, 1) := by decide +kernel
theorem dX11_init_881 : decode cX11_init 881 = .ok (.getfield 34, 3) := by decide +kernel
theorem dX11_init_884 : decode cX11_init 884 = .ok (.bipush 21, 2) := by decide +kernel
theorem dX11_init_886 : decode cX11_init 886 = .ok (.bipush 100, 2) := by decide +kernel
theorem dX11_init_888 : decode cX11_init 888 = .ok (.bipush 111, 2) := by decide +kernel
theorem dX11_init_890 : decode cX11_init 890 = .ok (.bipush 119, 2) := by decide +kernel
theorem dX11_init_892 : decode cX11_init 892 = .ok (.bipush 110, 2) := by decide +kernel
theorem dX11_init_894 : decode cX11_init 894 = .ok (.iconst 0, 1) := by decide +kernel
theorem dX11_init_895 : decode cX11_init 895 = .ok (.iconst 0, 1) := by decide +kernel
theorem dX11_init_896 : decode cX11_init 896 = .ok (.iconst 0, 1) := by decide +kernel
theorem dX11_init_897 : decode cX11_init 897 = .ok (.invokestatic 177, 3) := by decide +kernel
theorem dX11_init_900 : decode cX11_init 900 = .ok (.lastore, 1) := by decide +kernel
theorem dX11_init_901 : decode cX11_init 901 = .ok (.aload_n 0, 1) := by decide +kernel
theorem dX11_init_902 : decode cX11_init 902 = .ok (.invokevirtual 181, 3) := by decide +kernel
theorem dX11_init_905 : decode cX11_init 905 = .ok (.aload_n 0, 1) := by decide +kernel
theorem dX11_init_906 : decode cX11_init 906 = .ok (.invokevirtual 184, 3) := by decide +kernel
theorem dX11_init_909 : decode cX11_init 909 = .ok (.return_, 1) := by decide +kernel
theorem dX11_feed_0 : decode cX11_feed 0 = .ok (.aload_n 0, 1) := by decide +kernel
theorem dX11_feed_1 : decode cX11_feed 1 = .ok (.getfield 187, 3) := by decide +kernel
theorem dX11_feed_4 : decode cX11_feed 4 = .ok (.bipush 20, 2) := by decide +kernel
theorem dX11_feed_6 : decode cX11_feed 6 = .ok (.iadd, 1) := by decide +kernel
theorem dX11_feed_7 : decode cX11_feed 7 = .ok (.sipush 2000, 3) := by decide +kernel
theorem dX11_feed_10 : decode cX11_feed 10 = .ok (.if_icmp .le 5, 3) := by decide +kernel
theorem dX11_feed_13 : decode cX11_feed 13 = .ok (.iconst (-1), 1) := by decide +kernel
theorem dX11_feed_14 : decode cX11_feed 14 = .ok (.ireturn, 1) := by decide +kernel
theorem dX11_feed_15 : decode cX11_feed 15 = .ok (.aload_n 0, 1) := by decide +kernel
theorem dX11_feed_16 : decode cX11_feed 16 = .ok (.iload_n 1, 1) := by decide +kernel
theorem dX11_feed_17 : decode cX11_feed 17 = .ok (.invokevirtual 190, 3) := by decide +kernel
theorem dX11_feed_20 : decode cX11_feed 20 = .ok (.aload_n 0, 1) := by decide +kernel
theorem dX11_feed_21 : decode cX11_feed 21 = .ok (.iload_n 2, 1) := by decide +kernel
theorem dX11_feed_22 : decode cX11_feed 22 = .ok (.invokevirtual 190, 3) := by decide +kernel
theorem dX11_feed_25 : decode cX11_feed 25 = .ok (.aload_n 0, 1) := by decide +kernel
theorem dX11_feed_26 : decode cX11_feed 26 = .ok (.iload_n 3, 1) := by decide +kernel
theorem dX11_feed_27 : decode cX11_feed 27 = .ok (.invokevirtual 190, 3) := by decide +kernel
theorem dX11_feed_30 : decode cX11_feed 30 = .ok (.aload_n 0, 1) := by decide +kernel
theorem dX11_feed_31 : decode cX11_feed 31 = .ok (.iload 4, 2) := by decide +kernel
theorem dX11_feed_33 : decode cX11_feed 33 = .ok (.invokevirtual 190, 3) := by decide +kernel
theorem dX11_feed_36 : decode cX11_feed 36 = .ok (.aload_n 0, 1) := by decide +kernel
theorem dX11_feed_37 : decode cX11_feed 37 = .ok (.iload 5, 2) := by decide +kernel
theorem dX11_feed_39 : decode cX11_feed 39 = .ok (.invokevirtual 190, 3) := by decide +kernel
theorem dX11_feed_42 : decode cX11_feed 42 = .ok (.aload_n 0, 1) := by decide +kernel
theorem dX11_feed_43 : decode cX11_feed 43 = .ok (.getfield 187, 3) := by decide +kernel
theorem dX11_feed_46 : decode cX11_feed 46 = .ok (.ireturn, 1) := by decide +kernel
theorem dX11_put_0 : decode cX11_put 0 = .ok (.bipush 24, 2) := by decide +kernel
theorem dX11_put_2 : decode cX11_put 2 = .ok (.istore_n 2, 1) := by decide +kernel
theorem dX11_put_3 : decode cX11_put 3 = .ok (.iload_n 2, 1) := by decide +kernel
theorem dX11_put_4 : decode cX11_put 4 = .ok (.ifCond .lt 32, 3) := by decide +kernel
theorem dX11_put_7 : decode cX11_put 7 = .ok (.aload_n 0, 1) := by decide +kernel
theorem dX11_put_8 : decode cX11_put 8 = .ok (.getfield 13, 3) := by decide +kernel
theorem dX11_put_11 : decode cX11_put 11 = .ok (.aload_n 0, 1) := by decide +kernel
theorem dX11_put_12 : decode cX11_put 12 = .ok (.getfield 187, 3) := by decide +kernel
theorem dX11_put_15 : decode cX11_put 15 = .ok (.iload_n 1, 1) := by decide +kernel
theorem dX11_put_16 : decode cX11_put 16 = .ok (.iload_n 2, 1) := by decide +kernel
theorem dX11_put_17 : decode cX11_put 17 = .ok (.ishr, 1) := by decide +kernel
theorem dX11_put_18 : decode cX11_put 18 = .ok (.i2b, 1) := by decide +kernel
theorem dX11_put_19 : decode cX11_put 19 = .ok (.bastore, 1) := by decide +kernel
theorem dX11_put_20 : decode cX11_put 20 = .ok (.aload_n 0, 1) := by decide +kernel
theorem dX11_put_21 : decode cX11_put 21 = .ok (.dup, 1) := by decide +kernel
theorem dX11_put_22 : decode cX11_put 22 = .ok (.getfield 187, 3) := by decide +kernel
theorem dX11_put_25 : decode cX11_put 25 = .ok (.iconst 1, 1) := by decide +kernel
theorem dX11_put_26 : decode cX11_put 26 = .ok (.iadd, 1) := by decide +kernel
theorem dX11_put_27 : decode cX11_put 27 = .ok (.putfield 187, 3) := by decide +kernel
theorem dX11_put_30 : decode cX11_put 30 = .ok (.iinc 2 (-8), 3) := by decide +kernel
theorem dX11_put_33 : decode cX11_put 33 = .ok (.goto (-30), 3) := by decide +kernel
theorem dX11_put_36 : decode cX11_put 36 = .ok (.return_, 1) := by decide +kernel
theorem dX11_back_0 : decode cX11_back 0 = .ok (.iload_n 1, 1) := by decide +kernel
theorem dX11_back_1 : decode cX11_back 1 = .ok (.ifCond .lt 11, 3) := by decide +kernel
theorem dX11_back_4 : decode cX11_back 4 = .ok (.iload_n 1, 1) := by decide +kernel
theorem dX11_back_5 : decode cX11_back 5 = .ok (.aload_n 0, 1) := by decide +kernel
theorem dX11_back_6 : decode cX11_back 6 = .ok (.getfield 187, 3) := by decide +kernel
theorem dX11_back_9 : decode cX11_back 9 = .ok (.if_icmp .le 5, 3) := by decide +kernel
theorem dX11_back_12 : decode cX11_back 12 = .ok (.iconst (-1), 1) := by decide +kernel
theorem dX11_back_13 : decode cX11_back 13 = .ok (.ireturn, 1) := by decide +kernel
theorem dX11_back_14 : decode cX11_back 14 = .ok (.aload_n 0, 1) := by decide +kernel
theorem dX11_back_15 : decode cX11_back 15 = .ok (.dup, 1) := by decide +kernel
theorem dX11_back_16 : decode cX11_back 16 = .ok (.getfield 187, 3) := by decide +kernel
theorem dX11_back_19 : decode cX11_back 19 = .ok (.iload_n 1, 1) := by decide +kernel
theorem dX11_back_20 : decode cX11_back 20 = .ok (.isub, 1) := by decide +kernel
theorem dX11_back_21 : decode cX11_back 21 = .ok (.putfield 187, 3) := by decide +kernel
theorem dX11_back_24 : decode cX11_back 24 = .ok (.aload_n 0, 1) := by decide +kernel
theorem dX11_back_25 : decode cX11_back 25 = .ok (.getfield 187, 3) := by decide +kernel
theorem dX11_back_28 : decode cX11_back 28 = .ok (.ireturn, 1) := by decide +kernel
theorem dX11_byteAt_0 : decode cX11_byteAt 0 = .ok (.iload_n 1, 1) := by decide +kernel
theorem dX11_byteAt_1 : decode cX11_byteAt 1 = .ok (.aload_n 0, 1) := by decide +kernel
theorem dX11_byteAt_2 : decode cX11_byteAt 2 = .ok (.getfield 193, 3) := by decide +kernel
theorem dX11_byteAt_5 : decode cX11_byteAt 5 = .ok (.if_icmp .ge 16, 3) := by decide +kernel
theorem dX11_byteAt_8 : decode cX11_byteAt 8 = .ok (.aload_n 0, 1) := by decide +kernel
theorem dX11_byteAt_9 : decode cX11_byteAt 9 = .ok (.getfield 17, 3) := by decide +kernel
theorem dX11_byteAt_12 : decode cX11_byteAt 12 = .ok (.iload_n 1, 1) := by decide +kernel
theorem dX11_byteAt_13 : decode cX11_byteAt 13 = .ok (.baload, 1) := by decide +kernel
theorem dX11_byteAt_14 : decode cX11_byteAt 14 = .ok (.sipush 255, 3) := by decide +kernel
theorem dX11_byteAt_17 : decode cX11_byteAt 17 = .ok (.iand, 1) := by decide +kernel
theorem dX11_byteAt_18 : decode cX11_byteAt 18 = .ok (.goto 4, 3) := by decide +kernel
theorem dX11_byteAt_21 : decode cX11_byteAt 21 = .ok (.iconst 0, 1) := by decide +kernel
theorem dX11_byteAt_22 : decode cX11_byteAt 22 = .ok (.ireturn, 1) := by decide +kernel
theorem dX11_isDigit_0 : decode cX11_isDigit 0 = .ok (.iload_n 0, 1) := by decide +kernel
theorem dX11_isDigit_1 : decode cX11_isDigit 1 = .ok (.bipush 48, 2) := by decide +kernel
theorem dX11_isDigit_3 : decode cX11_isDigit 3 = .ok (.if_icmp .lt 13, 3) := by decide +kernel
theorem dX11_isDigit_6 : decode cX11_isDigit 6 = .ok (.iload_n 0, 1) := by decide +kernel
theorem dX11_isDigit_7 : decode cX11_isDigit 7 = .ok (.bipush 57, 2) := by decide +kernel
theorem dX11_isDigit_9 : decode cX11_isDigit 9 = .ok (.if_icmp .gt 7, 3) := by decide +kernel
theorem dX11_isDigit_12 : decode cX11_isDigit 12 = .ok (.iconst 1, 1) := by decide +kernel
theorem dX11_isDigit_13 : decode cX11_isDigit 13 = .ok (.goto 4, 3) := by decide +kernel
theorem dX11_isDigit_16 : decode cX11_isDigit 16 = .ok (.iconst 0, 1) := by decide +kernel
theorem dX11_isDigit_17 : decode cX11_isDigit 17 = .ok (.ireturn, 1) := by decide +kernel
theorem dX11_isLetter_0 : decode cX11_isLetter 0 = .ok (.iload_n 0, 1) := by decide +kernel
theorem dX11_isLetter_1 : decode cX11_isLetter 1 = .ok (.bipush 97, 2) := by decide +kernel
theorem dX11_isLetter_3 : decode cX11_isLetter 3 = .ok (.if_icmp .lt 13, 3) := by decide +kernel
theorem dX11_isLetter_6 : decode cX11_isLetter 6 = .ok (.iload_n 0, 1) := by decide +kernel
theorem dX11_isLetter_7 : decode cX11_isLetter 7 = .ok (.bipush 122, 2) := by decide +kernel
theorem dX11_isLetter_9 : decode cX11_isLetter 9 = .ok (.if_icmp .gt 7, 3) := by decide +kernel
theorem dX11_isLetter_12 : decode cX11_isLetter 12 = .ok (.iconst 1, 1) := by decide +kernel
theorem dX11_isLetter_13 : decode cX11_isLetter 13 = .ok (.goto 4, 3) := by decide +kernel
theorem dX11_isLetter_16 : decode cX11_isLetter 16 = .ok (.iconst 0, 1) := by decide +kernel
theorem dX11_isLetter_17 : decode cX11_isLetter 17 = .ok (.ireturn, 1) := by decide +kernel
theorem dX11_appends_0 : decode cX11_appends 0 = .ok (.iload_n 2, 1) := by decide +kernel
theorem dX11_appends_1 : decode cX11_appends 1 = .ok (.ifCond .ne 7, 3) := by decide +kernel
theorem dX11_appends_4 : decode cX11_appends 4 = .ok (.lload_n 0, 1) := by decide +kernel
theorem dX11_appends_5 : decode cX11_appends 5 = .ok (.goto 16, 3) := by decide +kernel
theorem dX11_appends_8 : decode cX11_appends 8 = .ok (.ldc2_w 196, 3) := by decide +kernel
theorem dX11_appends_11 : decode cX11_appends 11 = .ok (.lload_n 0, 1) := by decide +kernel
theorem dX11_appends_12 : decode cX11_appends 12 = .ok (.lmul, 1) := by decide +kernel
theorem dX11_appends_13 : decode cX11_appends 13 = .ok (.iload_n 2, 1) := by decide +kernel
theorem dX11_appends_14 : decode cX11_appends 14 = .ok (.bipush 97, 2) := by decide +kernel
theorem dX11_appends_16 : decode cX11_appends 16 = .ok (.isub, 1) := by decide +kernel
theorem dX11_appends_17 : decode cX11_appends 17 = .ok (.iconst 1, 1) := by decide +kernel
theorem dX11_appends_18 : decode cX11_appends 18 = .ok (.iadd, 1) := by decide +kernel
theorem dX11_appends_19 : decode cX11_appends 19 = .ok (.i2l, 1) := by decide +kernel
theorem dX11_appends_20 : decode cX11_appends 20 = .ok (.ladd, 1) := by decide +kernel
theorem dX11_appends_21 : decode cX11_appends 21 = .ok (.lreturn, 1) := by decide +kernel
theorem dX11_word_0 : decode cX11_word 0 = .ok (.lconst 0, 1) := by decide +kernel
theorem dX11_word_1 : decode cX11_word 1 = .ok (.iload_n 0, 1) := by decide +kernel
theorem dX11_word_2 : decode cX11_word 2 = .ok (.invokestatic 198, 3) := by decide +kernel
theorem dX11_word_5 : decode cX11_word 5 = .ok (.iload_n 1, 1) := by decide +kernel
theorem dX11_word_6 : decode cX11_word 6 = .ok (.invokestatic 198, 3) := by decide +kernel
theorem dX11_word_9 : decode cX11_word 9 = .ok (.iload_n 2, 1) := by decide +kernel
theorem dX11_word_10 : decode cX11_word 10 = .ok (.invokestatic 198, 3) := by decide +kernel
theorem dX11_word_13 : decode cX11_word 13 = .ok (.iload_n 3, 1) := by decide +kernel
theorem dX11_word_14 : decode cX11_word 14 = .ok (.invokestatic 198, 3) := by decide +kernel
theorem dX11_word_17 : decode cX11_word 17 = .ok (.iload 4, 2) := by decide +kernel
theorem dX11_word_19 : decode cX11_word 19 = .ok (.invokestatic 198, 3) := by decide +kernel
theorem dX11_word_22 : decode cX11_word 22 = .ok (.iload 5, 2) := by decide +kernel
theorem dX11_word_24 : decode cX11_word 24 = .ok (.invokestatic 198, 3) := by decide +kernel
theorem dX11_word_27 : decode cX11_word 27 = .ok (.iload 6, 2) := by decide +kernel
theorem dX11_word_29 : decode cX11_word 29 = .ok (.invokestatic 198, 3) := by decide +kernel
theorem dX11_word_32 : decode cX11_word 32 = .ok (.lreturn, 1) := by decide +kernel
theorem dX11_token_0 : decode cX11_token 0 = .ok (.aload_n 0, 1) := by decide +kernel
theorem dX11_token_1 : decode cX11_token 1 = .ok (.getfield 20, 3) := by decide +kernel
theorem dX11_token_4 : decode cX11_token 4 = .ok (.aload_n 0, 1) := by decide +kernel
theorem dX11_token_5 : decode cX11_token 5 = .ok (.getfield 202, 3) := by decide +kernel
theorem dX11_token_8 : decode cX11_token 8 = .ok (.iload_n 1, 1) := by decide +kernel
theorem dX11_token_9 : decode cX11_token 9 = .ok (.iastore, 1) := by decide +kernel
theorem dX11_token_10 : decode cX11_token 10 = .ok (.aload_n 0, 1) := by decide +kernel
theorem dX11_token_11 : decode cX11_token 11 = .ok (.getfield 24, 3) := by decide +kernel
theorem dX11_token_14 : decode cX11_token 14 = .ok (.aload_n 0, 1) := by decide +kernel
theorem dX11_token_15 : decode cX11_token 15 = .ok (.getfield 202, 3) := by decide +kernel
theorem dX11_token_18 : decode cX11_token 18 = .ok (.iload_n 2, 1) := by decide +kernel
theorem dX11_token_19 : decode cX11_token 19 = .ok (.iastore, 1) := by decide +kernel
theorem dX11_token_20 : decode cX11_token 20 = .ok (.aload_n 0, 1) := by decide +kernel
theorem dX11_token_21 : decode cX11_token 21 = .ok (.getfield 27, 3) := by decide +kernel
theorem dX11_token_24 : decode cX11_token 24 = .ok (.aload_n 0, 1) := by decide +kernel
theorem dX11_token_25 : decode cX11_token 25 = .ok (.getfield 202, 3) := by decide +kernel
theorem dX11_token_28 : decode cX11_token 28 = .ok (.iload_n 3, 1) := by decide +kernel
theorem dX11_token_29 : decode cX11_token 29 = .ok (.iastore, 1) := by decide +kernel
theorem dX11_token_30 : decode cX11_token 30 = .ok (.aload_n 0, 1) := by decide +kernel
theorem dX11_token_31 : decode cX11_token 31 = .ok (.getfield 30, 3) := by decide +kernel
theorem dX11_token_34 : decode cX11_token 34 = .ok (.aload_n 0, 1) := by decide +kernel
theorem dX11_token_35 : decode cX11_token 35 = .ok (.getfield 202, 3) := by decide +kernel
theorem dX11_token_38 : decode cX11_token 38 = .ok (.lload 4, 2) := by decide +kernel
theorem dX11_token_40 : decode cX11_token 40 = .ok (.lastore, 1) := by decide +kernel
theorem dX11_token_41 : decode cX11_token 41 = .ok (.aload_n 0, 1) := by decide +kernel
theorem dX11_token_42 : decode cX11_token 42 = .ok (.dup, 1) := by decide +kernel
theorem dX11_token_43 : decode cX11_token 43 = .ok (.getfield 202, 3) := by decide +kernel
theorem dX11_token_46 : decode cX11_token 46 = .ok (.iconst 1, 1) := by decide +kernel
theorem dX11_token_47 : decode cX11_token 47 = .ok (.iadd, 1) := by decide +kernel
theorem dX11_token_48 : decode cX11_token 48 = .ok (.putfield 202, 3) := by decide +kernel
theorem dX11_token_51 : decode cX11_token 51 = .ok (.return_, 1) := by decide +kernel
theorem dX11_cut_0 : decode cX11_cut 0 = .ok (.aload_n 0, 1) := by decide +kernel
theorem dX11_cut_1 : decode cX11_cut 1 = .ok (.iconst 0, 1) := by decide +kernel
theorem dX11_cut_2 : decode cX11_cut 2 = .ok (.putfield 202, 3) := by decide +kernel
theorem dX11_cut_5 : decode cX11_cut 5 = .ok (.iconst 0, 1) := by decide +kernel
theorem dX11_cut_6 : decode cX11_cut 6 = .ok (.istore_n 1, 1) := by decide +kernel
theorem dX11_cut_7 : decode cX11_cut 7 = .ok (.aload_n 0, 1) := by decide +kernel
theorem dX11_cut_8 : decode cX11_cut 8 = .ok (.getfield 202, 3) := by decide +kernel
theorem dX11_cut_11 : decode cX11_cut 11 = .ok (.sipush 400, 3) := by decide +kernel
theorem dX11_cut_14 : decode cX11_cut 14 = .ok (.if_icmp .gt 280, 3) := by decide +kernel
theorem dX11_cut_17 : decode cX11_cut 17 = .ok (.aload_n 0, 1) := by decide +kernel
theorem dX11_cut_18 : decode cX11_cut 18 = .ok (.iload_n 1, 1) := by decide +kernel
theorem dX11_cut_19 : decode cX11_cut 19 = .ok (.invokevirtual 205, 3) := by decide +kernel
theorem dX11_cut_22 : decode cX11_cut 22 = .ok (.istore_n 2, 1) := by decide +kernel
theorem dX11_cut_23 : decode cX11_cut 23 = .ok (.iload_n 1, 1) := by decide +kernel
theorem dX11_cut_24 : decode cX11_cut 24 = .ok (.aload_n 0, 1) := by decide +kernel
theorem dX11_cut_25 : decode cX11_cut 25 = .ok (.getfield 193, 3) := by decide +kernel
theorem dX11_cut_28 : decode cX11_cut 28 = .ok (.if_icmp .lt 15, 3) := by decide +kernel
theorem dX11_cut_31 : decode cX11_cut 31 = .ok (.aload_n 0, 1) := by decide +kernel
theorem dX11_cut_32 : decode cX11_cut 32 = .ok (.iconst 0, 1) := by decide +kernel
theorem dX11_cut_33 : decode cX11_cut 33 = .ok (.aload_n 0, 1) := by decide +kernel
theorem dX11_cut_34 : decode cX11_cut 34 = .ok (.getfield 193, 3) := by decide +kernel
theorem dX11_cut_37 : decode cX11_cut 37 = .ok (.iconst 0, 1) := by decide +kernel
theorem dX11_cut_38 : decode cX11_cut 38 = .ok (.lconst 0, 1) := by decide +kernel
theorem dX11_cut_39 : decode cX11_cut 39 = .ok (.invokevirtual 209, 3) := by decide +kernel
theorem dX11_cut_42 : decode cX11_cut 42 = .ok (.return_, 1) := by decide +kernel
theorem dX11_cut_43 : decode cX11_cut 43 = .ok (.iload_n 2, 1) := by decide +kernel
theorem dX11_cut_44 : decode cX11_cut 44 = .ok (.bipush 9, 2) := by decide +kernel
theorem dX11_cut_46 : decode cX11_cut 46 = .ok (.if_icmp .eq 21, 3) := by decide +kernel
theorem dX11_cut_49 : decode cX11_cut 49 = .ok (.iload_n 2, 1) := by decide +kernel
theorem dX11_cut_50 : decode cX11_cut 50 = .ok (.bipush 10, 2) := by decide +kernel
theorem dX11_cut_52 : decode cX11_cut 52 = .ok (.if_icmp .eq 15, 3) := by decide +kernel
theorem dX11_cut_55 : decode cX11_cut 55 = .ok (.iload_n 2, 1) := by decide +kernel
theorem dX11_cut_56 : decode cX11_cut 56 = .ok (.bipush 13, 2) := by decide +kernel
theorem dX11_cut_58 : decode cX11_cut 58 = .ok (.if_icmp .eq 9, 3) := by decide +kernel
theorem dX11_cut_61 : decode cX11_cut 61 = .ok (.iload_n 2, 1) := by decide +kernel
theorem dX11_cut_62 : decode cX11_cut 62 = .ok (.bipush 32, 2) := by decide +kernel
theorem dX11_cut_64 : decode cX11_cut 64 = .ok (.if_icmp .ne 9, 3) := by decide +kernel
theorem dX11_cut_67 : decode cX11_cut 67 = .ok (.iinc 1 1, 3) := by decide +kernel
theorem dX11_cut_70 : decode cX11_cut 70 = .ok (.goto 221, 3) := by decide +kernel
theorem dX11_cut_73 : decode cX11_cut 73 = .ok (.iload_n 2, 1) := by decide +kernel
theorem dX11_cut_74 : decode cX11_cut 74 = .ok (.invokestatic 213, 3) := by decide +kernel
theorem dX11_cut_77 : decode cX11_cut 77 = .ok (.ifCond .eq 119, 3) := by decide +kernel
theorem dX11_cut_80 : decode cX11_cut 80 = .ok (.iconst 0, 1) := by decide +kernel
theorem dX11_cut_81 : decode cX11_cut 81 = .ok (.istore_n 3, 1) := by decide +kernel
theorem dX11_cut_82 : decode cX11_cut 82 = .ok (.lconst 0, 1) := by decide +kernel
theorem dX11_cut_83 : decode cX11_cut 83 = .ok (.lstore 4, 2) := by decide +kernel
theorem dX11_cut_85 : decode cX11_cut 85 = .ok (.aload_n 0, 1) := by decide +kernel
theorem dX11_cut_86 : decode cX11_cut 86 = .ok (.iload_n 1, 1) := by decide +kernel
theorem dX11_cut_87 : decode cX11_cut 87 = .ok (.iload_n 3, 1) := by decide +kernel
theorem dX11_cut_88 : decode cX11_cut 88 = .ok (.iadd, 1) := by decide +kernel
theorem dX11_cut_89 : decode cX11_cut 89 = .ok (.invokevirtual 205, 3) := by decide +kernel
theorem dX11_cut_92 : decode cX11_cut 92 = .ok (.invokestatic 213, 3) := by decide +kernel
theorem dX11_cut_95 : decode cX11_cut 95 = .ok (.ifCond .eq 29, 3) := by decide +kernel
theorem dX11_cut_98 : decode cX11_cut 98 = .ok (.iload_n 3, 1) := by decide +kernel
theorem dX11_cut_99 : decode cX11_cut 99 = .ok (.bipush 8, 2) := by decide +kernel
theorem dX11_cut_101 : decode cX11_cut 101 = .ok (.if_icmp .ge 17, 3) := by decide +kernel
theorem dX11_cut_104 : decode cX11_cut 104 = .ok (.lload 4, 2) := by decide +kernel
theorem dX11_cut_106 : decode cX11_cut 106 = .ok (.aload_n 0, 1) := by decide +kernel
theorem dX11_cut_107 : decode cX11_cut 107 = .ok (.iload_n 1, 1) := by decide +kernel
theorem dX11_cut_108 : decode cX11_cut 108 = .ok (.iload_n 3, 1) := by decide +kernel
theorem dX11_cut_109 : decode cX11_cut 109 = .ok (.iadd, 1) := by decide +kernel
theorem dX11_cut_110 : decode cX11_cut 110 = .ok (.invokevirtual 205, 3) := by decide +kernel
theorem dX11_cut_113 : decode cX11_cut 113 = .ok (.invokestatic 198, 3) := by decide +kernel
theorem dX11_cut_116 : decode cX11_cut 116 = .ok (.lstore 4, 2) := by decide +kernel
theorem dX11_cut_118 : decode cX11_cut 118 = .ok (.iinc 3 1, 3) := by decide +kernel
theorem dX11_cut_121 : decode cX11_cut 121 = .ok (.goto (-36), 3) := by decide +kernel
theorem dX11_cut_124 : decode cX11_cut 124 = .ok (.iload_n 3, 1) := by decide +kernel
theorem dX11_cut_125 : decode cX11_cut 125 = .ok (.bipush 8, 2) := by decide +kernel
theorem dX11_cut_127 : decode cX11_cut 127 = .ok (.if_icmp .le 7, 3) := by decide +kernel
theorem dX11_cut_130 : decode cX11_cut 130 = .ok (.iconst 3, 1) := by decide +kernel
theorem dX11_cut_131 : decode cX11_cut 131 = .ok (.goto 4, 3) := by decide +kernel
theorem dX11_cut_134 : decode cX11_cut 134 = .ok (.iconst 1, 1) := by decide +kernel
theorem dX11_cut_135 : decode cX11_cut 135 = .ok (.istore 6, 2) := by decide +kernel
theorem dX11_cut_137 : decode cX11_cut 137 = .ok (.iload_n 3, 1) := by decide +kernel
theorem dX11_cut_138 : decode cX11_cut 138 = .ok (.bipush 8, 2) := by decide +kernel
theorem dX11_cut_140 : decode cX11_cut 140 = .ok (.if_icmp .gt 39, 3) := by decide +kernel
theorem dX11_cut_143 : decode cX11_cut 143 = .ok (.iconst 0, 1) := by decide +kernel
theorem dX11_cut_144 : decode cX11_cut 144 = .ok (.istore 7, 2) := by decide +kernel
theorem dX11_cut_146 : decode cX11_cut 146 = .ok (.iload 7, 2) := by decide +kernel
theorem dX11_cut_148 : decode cX11_cut 148 = .ok (.bipush 22, 2) := by decide +kernel
theorem dX11_cut_150 : decode cX11_cut 150 = .ok (.if_icmp .ge 29, 3) := by decide +kernel
theorem dX11_cut_153 : decode cX11_cut 153 = .ok (.aload_n 0, 1) := by decide +kernel
theorem dX11_cut_154 : decode cX11_cut 154 = .ok (.getfield 34, 3) := by decide +kernel
theorem dX11_cut_157 : decode cX11_cut 157 = .ok (.iload 7, 2) := by decide +kernel
theorem dX11_cut_159 : decode cX11_cut 159 = .ok (.laload, 1) := by decide +kernel
theorem dX11_cut_160 : decode cX11_cut 160 = .ok (.lload 4, 2) := by decide +kernel
theorem dX11_cut_162 : decode cX11_cut 162 = .ok (.lcmp, 1) := by decide +kernel
theorem dX11_cut_163 : decode cX11_cut 163 = .ok (.ifCond .ne 10, 3) := by decide +kernel
theorem dX11_cut_166 : decode cX11_cut 166 = .ok (.bipush 20, 2) := by decide +kernel
theorem dX11_cut_168 : decode cX11_cut 168 = .ok (.iload 7, 2) := by decide +kernel
theorem dX11_cut_170 : decode cX11_cut 170 = .ok (.iadd, 1) := by decide +kernel
theorem dX11_cut_171 : decode cX11_cut 171 = .ok (.istore 6, 2) := by decide +kernel
theorem dX11_cut_173 : decode cX11_cut 173 = .ok (.iinc 7 1, 3) := by decide +kernel
theorem dX11_cut_176 : decode cX11_cut 176 = .ok (.goto (-30), 3) := by decide +kernel
theorem dX11_cut_179 : decode cX11_cut 179 = .ok (.aload_n 0, 1) := by decide +kernel
theorem dX11_cut_180 : decode cX11_cut 180 = .ok (.iload 6, 2) := by decide +kernel
theorem dX11_cut_182 : decode cX11_cut 182 = .ok (.iload_n 1, 1) := by decide +kernel
theorem dX11_cut_183 : decode cX11_cut 183 = .ok (.iconst 0, 1) := by decide +kernel
theorem dX11_cut_184 : decode cX11_cut 184 = .ok (.lload 4, 2) := by decide +kernel
theorem dX11_cut_186 : decode cX11_cut 186 = .ok (.invokevirtual 209, 3) := by decide +kernel
theorem dX11_cut_189 : decode cX11_cut 189 = .ok (.iload_n 1, 1) := by decide +kernel
theorem dX11_cut_190 : decode cX11_cut 190 = .ok (.iload_n 3, 1) := by decide +kernel
theorem dX11_cut_191 : decode cX11_cut 191 = .ok (.iadd, 1) := by decide +kernel
theorem dX11_cut_192 : decode cX11_cut 192 = .ok (.istore_n 1, 1) := by decide +kernel
theorem dX11_cut_193 : decode cX11_cut 193 = .ok (.goto 98, 3) := by decide +kernel
theorem dX11_cut_196 : decode cX11_cut 196 = .ok (.iload_n 2, 1) := by decide +kernel
theorem dX11_cut_197 : decode cX11_cut 197 = .ok (.invokestatic 217, 3) := by decide +kernel
theorem dX11_cut_200 : decode cX11_cut 200 = .ok (.ifCond .eq 75, 3) := by decide +kernel
theorem dX11_cut_203 : decode cX11_cut 203 = .ok (.iconst 0, 1) := by decide +kernel
theorem dX11_cut_204 : decode cX11_cut 204 = .ok (.istore_n 3, 1) := by decide +kernel
theorem dX11_cut_205 : decode cX11_cut 205 = .ok (.iconst 0, 1) := by decide +kernel
theorem dX11_cut_206 : decode cX11_cut 206 = .ok (.istore 4, 2) := by decide +kernel
theorem dX11_cut_208 : decode cX11_cut 208 = .ok (.aload_n 0, 1) := by decide +kernel
theorem dX11_cut_209 : decode cX11_cut 209 = .ok (.iload_n 1, 1) := by decide +kernel
theorem dX11_cut_210 : decode cX11_cut 210 = .ok (.iload_n 3, 1) := by decide +kernel
theorem dX11_cut_211 : decode cX11_cut 211 = .ok (.iadd, 1) := by decide +kernel
theorem dX11_cut_212 : decode cX11_cut 212 = .ok (.invokevirtual 205, 3) := by decide +kernel
theorem dX11_cut_215 : decode cX11_cut 215 = .ok (.invokestatic 217, 3) := by decide +kernel
theorem dX11_cut_218 : decode cX11_cut 218 = .ok (.ifCond .eq 32, 3) := by decide +kernel
theorem dX11_cut_221 : decode cX11_cut 221 = .ok (.iload_n 3, 1) := by decide +kernel
theorem dX11_cut_222 : decode cX11_cut 222 = .ok (.iconst 4, 1) := by decide +kernel
theorem dX11_cut_223 : decode cX11_cut 223 = .ok (.if_icmp .ge 21, 3) := by decide +kernel
theorem dX11_cut_226 : decode cX11_cut 226 = .ok (.bipush 10, 2) := by decide +kernel
theorem dX11_cut_228 : decode cX11_cut 228 = .ok (.iload 4, 2) := by decide +kernel
theorem dX11_cut_230 : decode cX11_cut 230 = .ok (.imul, 1) := by decide +kernel
theorem dX11_cut_231 : decode cX11_cut 231 = .ok (.aload_n 0, 1) := by decide +kernel
theorem dX11_cut_232 : decode cX11_cut 232 = .ok (.iload_n 1, 1) := by decide +kernel
theorem dX11_cut_233 : decode cX11_cut 233 = .ok (.iload_n 3, 1) := by decide +kernel
theorem dX11_cut_234 : decode cX11_cut 234 = .ok (.iadd, 1) := by decide +kernel
theorem dX11_cut_235 : decode cX11_cut 235 = .ok (.invokevirtual 205, 3) := by decide +kernel
theorem dX11_cut_238 : decode cX11_cut 238 = .ok (.iadd, 1) := by decide +kernel
theorem dX11_cut_239 : decode cX11_cut 239 = .ok (.bipush 48, 2) := by decide +kernel
theorem dX11_cut_241 : decode cX11_cut 241 = .ok (.isub, 1) := by decide +kernel
theorem dX11_cut_242 : decode cX11_cut 242 = .ok (.istore 4, 2) := by decide +kernel
theorem dX11_cut_244 : decode cX11_cut 244 = .ok (.iinc 3 1, 3) := by decide +kernel
theorem dX11_cut_247 : decode cX11_cut 247 = .ok (.goto (-39), 3) := by decide +kernel
theorem dX11_cut_250 : decode cX11_cut 250 = .ok (.aload_n 0, 1) := by decide +kernel
theorem dX11_cut_251 : decode cX11_cut 251 = .ok (.iload_n 3, 1) := by decide +kernel
theorem dX11_cut_252 : decode cX11_cut 252 = .ok (.iconst 4, 1) := by decide +kernel
theorem dX11_cut_253 : decode cX11_cut 253 = .ok (.if_icmp .le 7, 3) := by decide +kernel
theorem dX11_cut_256 : decode cX11_cut 256 = .ok (.iconst 3, 1) := by decide +kernel
theorem dX11_cut_257 : decode cX11_cut 257 = .ok (.goto 4, 3) := by decide +kernel
theorem dX11_cut_260 : decode cX11_cut 260 = .ok (.iconst 2, 1) := by decide +kernel
theorem dX11_cut_261 : decode cX11_cut 261 = .ok (.iload_n 1, 1) := by decide +kernel
theorem dX11_cut_262 : decode cX11_cut 262 = .ok (.iload 4, 2) := by decide +kernel
theorem dX11_cut_264 : decode cX11_cut 264 = .ok (.lconst 0, 1) := by decide +kernel
theorem dX11_cut_265 : decode cX11_cut 265 = .ok (.invokevirtual 209, 3) := by decide +kernel
theorem dX11_cut_268 : decode cX11_cut 268 = .ok (.iload_n 1, 1) := by decide +kernel
theorem dX11_cut_269 : decode cX11_cut 269 = .ok (.iload_n 3, 1) := by decide +kernel
theorem dX11_cut_270 : decode cX11_cut 270 = .ok (.iadd, 1) := by decide +kernel
theorem dX11_cut_271 : decode cX11_cut 271 = .ok (.istore_n 1, 1) := by decide +kernel
theorem dX11_cut_272 : decode cX11_cut 272 = .ok (.goto 19, 3) := by decide +kernel
theorem dX11_cut_275 : decode cX11_cut 275 = .ok (.iload_n 1, 1) := by decide +kernel
theorem dX11_cut_276 : decode cX11_cut 276 = .ok (.aload_n 0, 1) := by decide +kernel
theorem dX11_cut_277 : decode cX11_cut 277 = .ok (.iload_n 1, 1) := by decide +kernel
theorem dX11_cut_278 : decode cX11_cut 278 = .ok (.iload_n 2, 1) := by decide +kernel
theorem dX11_cut_279 : decode cX11_cut 279 = .ok (.aload_n 0, 1) := by decide +kernel
theorem dX11_cut_280 : decode cX11_cut 280 = .ok (.iload_n 1, 1) := by decide +kernel
theorem dX11_cut_281 : decode cX11_cut 281 = .ok (.iconst 1, 1) := by decide +kernel
theorem dX11_cut_282 : decode cX11_cut 282 = .ok (.iadd, 1) := by decide +kernel
theorem dX11_cut_283 : decode cX11_cut 283 = .ok (.invokevirtual 205, 3) := by decide +kernel
theorem dX11_cut_286 : decode cX11_cut 286 = .ok (.invokevirtual 220, 3) := by decide +kernel
theorem dX11_cut_289 : decode cX11_cut 289 = .ok (.iadd, 1) := by decide +kernel
theorem dX11_cut_290 : decode cX11_cut 290 = .ok (.istore_n 1, 1) := by decide +kernel
theorem dX11_cut_291 : decode cX11_cut 291 = .ok (.goto (-284), 3) := by decide +kernel
theorem dX11_cut_294 : decode cX11_cut 294 = .ok (.return_, 1) := by decide +kernel
theorem dX11_sign_0 : decode cX11_sign 0 = .ok (.iload_n 2, 1) := by decide +kernel
theorem dX11_sign_1 : decode cX11_sign 1 = .ok (.bipush 59, 2) := by decide +kernel
theorem dX11_sign_3 : decode cX11_sign 3 = .ok (.if_icmp .ne 7, 3) := by decide +kernel
theorem dX11_sign_6 : decode cX11_sign 6 = .ok (.iconst 4, 1) := by decide +kernel
theorem dX11_sign_7 : decode cX11_sign 7 = .ok (.goto 36, 3) := by decide +kernel
theorem dX11_sign_10 : decode cX11_sign 10 = .ok (.iload_n 2, 1) := by decide +kernel
theorem dX11_sign_11 : decode cX11_sign 11 = .ok (.bipush 61, 2) := by decide +kernel
theorem dX11_sign_13 : decode cX11_sign 13 = .ok (.if_icmp .ne 7, 3) := by decide +kernel
theorem dX11_sign_16 : decode cX11_sign 16 = .ok (.iconst 5, 1) := by decide +kernel
theorem dX11_sign_17 : decode cX11_sign 17 = .ok (.goto 26, 3) := by decide +kernel
theorem dX11_sign_20 : decode cX11_sign 20 = .ok (.iload_n 2, 1) := by decide +kernel
theorem dX11_sign_21 : decode cX11_sign 21 = .ok (.bipush 40, 2) := by decide +kernel
theorem dX11_sign_23 : decode cX11_sign 23 = .ok (.if_icmp .ne 8, 3) := by decide +kernel
theorem dX11_sign_26 : decode cX11_sign 26 = .ok (.bipush 6, 2) := by decide +kernel
theorem dX11_sign_28 : decode cX11_sign 28 = .ok (.goto 15, 3) := by decide +kernel
theorem dX11_sign_31 : decode cX11_sign 31 = .ok (.iload_n 2, 1) := by decide +kernel
theorem dX11_sign_32 : decode cX11_sign 32 = .ok (.bipush 41, 2) := by decide +kernel
theorem dX11_sign_34 : decode cX11_sign 34 = .ok (.if_icmp .ne 8, 3) := by decide +kernel
theorem dX11_sign_37 : decode cX11_sign 37 = .ok (.bipush 7, 2) := by decide +kernel
theorem dX11_sign_39 : decode cX11_sign 39 = .ok (.goto 4, 3) := by decide +kernel
theorem dX11_sign_42 : decode cX11_sign 42 = .ok (.iconst 3, 1) := by decide +kernel
theorem dX11_sign_43 : decode cX11_sign 43 = .ok (.istore 4, 2) := by decide +kernel
theorem dX11_sign_45 : decode cX11_sign 45 = .ok (.iload_n 2, 1) := by decide +kernel
theorem dX11_sign_46 : decode cX11_sign 46 = .ok (.bipush 43, 2) := by decide +kernel
theorem dX11_sign_48 : decode cX11_sign 48 = .ok (.if_icmp .ne 7, 3) := by decide +kernel
theorem dX11_sign_51 : decode cX11_sign 51 = .ok (.bipush 8, 2) := by decide +kernel
theorem dX11_sign_53 : decode cX11_sign 53 = .ok (.istore 4, 2) := by decide +kernel
theorem dX11_sign_55 : decode cX11_sign 55 = .ok (.iload_n 2, 1) := by decide +kernel
theorem dX11_sign_56 : decode cX11_sign 56 = .ok (.bipush 45, 2) := by decide +kernel
theorem dX11_sign_58 : decode cX11_sign 58 = .ok (.if_icmp .ne 7, 3) := by decide +kernel
theorem dX11_sign_61 : decode cX11_sign 61 = .ok (.bipush 9, 2) := by decide +kernel
theorem dX11_sign_63 : decode cX11_sign 63 = .ok (.istore 4, 2) := by decide +kernel
theorem dX11_sign_65 : decode cX11_sign 65 = .ok (.iload_n 2, 1) := by decide +kernel
theorem dX11_sign_66 : decode cX11_sign 66 = .ok (.bipush 42, 2) := by decide +kernel
theorem dX11_sign_68 : decode cX11_sign 68 = .ok (.if_icmp .ne 7, 3) := by decide +kernel
theorem dX11_sign_71 : decode cX11_sign 71 = .ok (.bipush 10, 2) := by decide +kernel
theorem dX11_sign_73 : decode cX11_sign 73 = .ok (.istore 4, 2) := by decide +kernel
theorem dX11_sign_75 : decode cX11_sign 75 = .ok (.iload_n 2, 1) := by decide +kernel
theorem dX11_sign_76 : decode cX11_sign 76 = .ok (.bipush 47, 2) := by decide +kernel
theorem dX11_sign_78 : decode cX11_sign 78 = .ok (.if_icmp .ne 7, 3) := by decide +kernel
theorem dX11_sign_81 : decode cX11_sign 81 = .ok (.bipush 15, 2) := by decide +kernel
theorem dX11_sign_83 : decode cX11_sign 83 = .ok (.istore 4, 2) := by decide +kernel
theorem dX11_sign_85 : decode cX11_sign 85 = .ok (.iload_n 2, 1) := by decide +kernel
theorem dX11_sign_86 : decode cX11_sign 86 = .ok (.bipush 60, 2) := by decide +kernel
theorem dX11_sign_88 : decode cX11_sign 88 = .ok (.if_icmp .ne 7, 3) := by decide +kernel
theorem dX11_sign_91 : decode cX11_sign 91 = .ok (.bipush 13, 2) := by decide +kernel
theorem dX11_sign_93 : decode cX11_sign 93 = .ok (.istore 4, 2) := by decide +kernel
theorem dX11_sign_95 : decode cX11_sign 95 = .ok (.aload_n 0, 1) := by decide +kernel
theorem dX11_sign_96 : decode cX11_sign 96 = .ok (.iload 4, 2) := by decide +kernel
theorem dX11_sign_98 : decode cX11_sign 98 = .ok (.iload_n 1, 1) := by decide +kernel
theorem dX11_sign_99 : decode cX11_sign 99 = .ok (.iconst 0, 1) := by decide +kernel
theorem dX11_sign_100 : decode cX11_sign 100 = .ok (.lconst 0, 1) := by decide +kernel
theorem dX11_sign_101 : decode cX11_sign 101 = .ok (.invokevirtual 209, 3) := by decide +kernel
theorem dX11_sign_104 : decode cX11_sign 104 = .ok (.iconst 1, 1) := by decide +kernel
theorem dX11_sign_105 : decode cX11_sign 105 = .ok (.ireturn, 1) := by decide +kernel
theorem dX11_is_0 : decode cX11_is 0 = .ok (.aload_n 0, 1) := by decide +kernel
theorem dX11_is_1 : decode cX11_is 1 = .ok (.getfield 224, 3) := by decide +kernel
theorem dX11_is_4 : decode cX11_is 4 = .ok (.ifCond .ne 20, 3) := by decide +kernel
theorem dX11_is_7 : decode cX11_is 7 = .ok (.aload_n 0, 1) := by decide +kernel
theorem dX11_is_8 : decode cX11_is 8 = .ok (.getfield 20, 3) := by decide +kernel
theorem dX11_is_11 : decode cX11_is 11 = .ok (.aload_n 0, 1) := by decide +kernel
theorem dX11_is_12 : decode cX11_is 12 = .ok (.getfield 227, 3) := by decide +kernel
theorem dX11_is_15 : decode cX11_is 15 = .ok (.iaload, 1) := by decide +kernel
theorem dX11_is_16 : decode cX11_is 16 = .ok (.iload_n 1, 1) := by decide +kernel
theorem dX11_is_17 : decode cX11_is 17 = .ok (.if_icmp .ne 7, 3) := by decide +kernel
theorem dX11_is_20 : decode cX11_is 20 = .ok (.iconst 1, 1) := by decide +kernel
theorem dX11_is_21 : decode cX11_is 21 = .ok (.goto 4, 3) := by decide +kernel
theorem dX11_is_24 : decode cX11_is 24 = .ok (.iconst 0, 1) := by decide +kernel
theorem dX11_is_25 : decode cX11_is 25 = .ok (.ireturn, 1) := by decide +kernel
theorem dX11_fail_0 : decode cX11_fail 0 = .ok (.aload_n 0, 1) := by decide +kernel
theorem dX11_fail_1 : decode cX11_fail 1 = .ok (.getfield 224, 3) := by decide +kernel
theorem dX11_fail_4 : decode cX11_fail 4 = .ok (.ifCond .le 4, 3) := by decide +kernel
theorem dX11_fail_7 : decode cX11_fail 7 = .ok (.return_, 1) := by decide +kernel
theorem dX11_fail_8 : decode cX11_fail 8 = .ok (.aload_n 0, 1) := by decide +kernel
theorem dX11_fail_9 : decode cX11_fail 9 = .ok (.iload_n 1, 1) := by decide +kernel
theorem dX11_fail_10 : decode cX11_fail 10 = .ok (.putfield 224, 3) := by decide +kernel
theorem dX11_fail_13 : decode cX11_fail 13 = .ok (.aload_n 0, 1) := by decide +kernel
theorem dX11_fail_14 : decode cX11_fail 14 = .ok (.aload_n 0, 1) := by decide +kernel
theorem dX11_fail_15 : decode cX11_fail 15 = .ok (.getfield 24, 3) := by decide +kernel
theorem dX11_fail_18 : decode cX11_fail 18 = .ok (.aload_n 0, 1) := by decide +kernel
theorem dX11_fail_19 : decode cX11_fail 19 = .ok (.getfield 227, 3) := by decide +kernel
theorem dX11_fail_22 : decode cX11_fail 22 = .ok (.iaload, 1) := by decide +kernel
theorem dX11_fail_23 : decode cX11_fail 23 = .ok (.putfield 230, 3) := by decide +kernel
theorem dX11_fail_26 : decode cX11_fail 26 = .ok (.return_, 1) := by decide +kernel
theorem dX11_wrong_0 : decode cX11_wrong 0 = .ok (.aload_n 0, 1) := by decide +kernel
theorem dX11_wrong_1 : decode cX11_wrong 1 = .ok (.getfield 24, 3) := by decide +kernel
theorem dX11_wrong_4 : decode cX11_wrong 4 = .ok (.iload_n 2, 1) := by decide +kernel
theorem dX11_wrong_5 : decode cX11_wrong 5 = .ok (.iaload, 1) := by decide +kernel
theorem dX11_wrong_6 : decode cX11_wrong 6 = .ok (.istore_n 3, 1) := by decide +kernel
theorem dX11_wrong_7 : decode cX11_wrong 7 = .ok (.aload_n 0, 1) := by decide +kernel
theorem dX11_wrong_8 : decode cX11_wrong 8 = .ok (.getfield 224, 3) := by decide +kernel
theorem dX11_wrong_11 : decode cX11_wrong 11 = .ok (.ifCond .gt 34, 3) := by decide +kernel
theorem dX11_wrong_14 : decode cX11_wrong 14 = .ok (.aload_n 0, 1) := by decide +kernel
theorem dX11_wrong_15 : decode cX11_wrong 15 = .ok (.getfield 233, 3) := by decide +kernel
theorem dX11_wrong_18 : decode cX11_wrong 18 = .ok (.ifCond .eq 28, 3) := by decide +kernel
theorem dX11_wrong_21 : decode cX11_wrong 21 = .ok (.iload_n 3, 1) := by decide +kernel
theorem dX11_wrong_22 : decode cX11_wrong 22 = .ok (.aload_n 0, 1) := by decide +kernel
theorem dX11_wrong_23 : decode cX11_wrong 23 = .ok (.getfield 236, 3) := by decide +kernel
theorem dX11_wrong_26 : decode cX11_wrong 26 = .ok (.if_icmp .gt 19, 3) := by decide +kernel
theorem dX11_wrong_29 : decode cX11_wrong 29 = .ok (.iload_n 3, 1) := by decide +kernel
theorem dX11_wrong_30 : decode cX11_wrong 30 = .ok (.aload_n 0, 1) := by decide +kernel
theorem dX11_wrong_31 : decode cX11_wrong 31 = .ok (.getfield 236, 3) := by decide +kernel
theorem dX11_wrong_34 : decode cX11_wrong 34 = .ok (.if_icmp .ne 12, 3) := by decide +kernel
theorem dX11_wrong_37 : decode cX11_wrong 37 = .ok (.iload_n 1, 1) := by decide +kernel
theorem dX11_wrong_38 : decode cX11_wrong 38 = .ok (.aload_n 0, 1) := by decide +kernel
theorem dX11_wrong_39 : decode cX11_wrong 39 = .ok (.getfield 233, 3) := by decide +kernel
theorem dX11_wrong_42 : decode cX11_wrong 42 = .ok (.if_icmp .lt 4, 3) := by decide +kernel
theorem dX11_wrong_45 : decode cX11_wrong 45 = .ok (.return_, 1) := by decide +kernel
theorem dX11_wrong_46 : decode cX11_wrong 46 = .ok (.aload_n 0, 1) := by decide +kernel
theorem dX11_wrong_47 : decode cX11_wrong 47 = .ok (.iload_n 1, 1) := by decide +kernel
theorem dX11_wrong_48 : decode cX11_wrong 48 = .ok (.putfield 233, 3) := by decide +kernel
theorem dX11_wrong_51 : decode cX11_wrong 51 = .ok (.aload_n 0, 1) := by decide +kernel
theorem dX11_wrong_52 : decode cX11_wrong 52 = .ok (.iload_n 3, 1) := by decide +kernel
theorem dX11_wrong_53 : decode cX11_wrong 53 = .ok (.putfield 236, 3) := by decide +kernel
theorem dX11_wrong_56 : decode cX11_wrong 56 = .ok (.return_, 1) := by decide +kernel
theorem dX11_goesOn_0 : decode cX11_goesOn 0 = .ok (.aload_n 0, 1) := by decide +kernel
theorem dX11_goesOn_1 : decode cX11_goesOn 1 = .ok (.getfield 227, 3) := by decide +kernel
theorem dX11_goesOn_4 : decode cX11_goesOn 4 = .ok (.sipush 400, 3) := by decide +kernel
theorem dX11_goesOn_7 : decode cX11_goesOn 7 = .ok (.if_icmp .ne 11, 3) := by decide +kernel
theorem dX11_goesOn_10 : decode cX11_goesOn 10 = .ok (.aload_n 0, 1) := by decide +kernel
theorem dX11_goesOn_11 : decode cX11_goesOn 11 = .ok (.iconst 2, 1) := by decide +kernel
theorem dX11_goesOn_12 : decode cX11_goesOn 12 = .ok (.invokevirtual 239, 3) := by decide +kernel
theorem dX11_goesOn_15 : decode cX11_goesOn 15 = .ok (.goto 13, 3) := by decide +kernel
theorem dX11_goesOn_18 : decode cX11_goesOn 18 = .ok (.aload_n 0, 1) := by decide +kernel
theorem dX11_goesOn_19 : decode cX11_goesOn 19 = .ok (.dup, 1) := by decide +kernel
theorem dX11_goesOn_20 : decode cX11_goesOn 20 = .ok (.getfield 227, 3) := by decide +kernel
theorem dX11_goesOn_23 : decode cX11_goesOn 23 = .ok (.iconst 1, 1) := by decide +kernel
theorem dX11_goesOn_24 : decode cX11_goesOn 24 = .ok (.iadd, 1) := by decide +kernel
theorem dX11_goesOn_25 : decode cX11_goesOn 25 = .ok (.putfield 227, 3) := by decide +kernel
theorem dX11_goesOn_28 : decode cX11_goesOn 28 = .ok (.return_, 1) := by decide +kernel
theorem dX11_must_0 : decode cX11_must 0 = .ok (.aload_n 0, 1) := by decide +kernel
theorem dX11_must_1 : decode cX11_must 1 = .ok (.iload_n 1, 1) := by decide +kernel
theorem dX11_must_2 : decode cX11_must 2 = .ok (.invokevirtual 242, 3) := by decide +kernel
theorem dX11_must_5 : decode cX11_must 5 = .ok (.ifCond .eq 10, 3) := by decide +kernel
theorem dX11_must_8 : decode cX11_must 8 = .ok (.aload_n 0, 1) := by decide +kernel
theorem dX11_must_9 : decode cX11_must 9 = .ok (.invokevirtual 245, 3) := by decide +kernel
theorem dX11_must_12 : decode cX11_must 12 = .ok (.goto 8, 3) := by decide +kernel
theorem dX11_must_15 : decode cX11_must 15 = .ok (.aload_n 0, 1) := by decide +kernel
theorem dX11_must_16 : decode cX11_must 16 = .ok (.iconst 1, 1) := by decide +kernel
theorem dX11_must_17 : decode cX11_must 17 = .ok (.invokevirtual 239, 3) := by decide +kernel
theorem dX11_must_20 : decode cX11_must 20 = .ok (.return_, 1) := by decide +kernel
theorem dX11_plain_0 : decode cX11_plain 0 = .ok (.aload_n 0, 1) := by decide +kernel
theorem dX11_plain_1 : decode cX11_plain 1 = .ok (.getfield 46, 3) := by decide +kernel
theorem dX11_plain_4 : decode cX11_plain 4 = .ok (.iload_n 1, 1) := by decide +kernel
theorem dX11_plain_5 : decode cX11_plain 5 = .ok (.iconst 0, 1) := by decide +kernel
theorem dX11_plain_6 : decode cX11_plain 6 = .ok (.iastore, 1) := by decide +kernel
theorem dX11_plain_7 : decode cX11_plain 7 = .ok (.aload_n 0, 1) := by decide +kernel
theorem dX11_plain_8 : decode cX11_plain 8 = .ok (.getfield 49, 3) := by decide +kernel
theorem dX11_plain_11 : decode cX11_plain 11 = .ok (.iload_n 1, 1) := by decide +kernel
theorem dX11_plain_12 : decode cX11_plain 12 = .ok (.iconst 0, 1) := by decide +kernel
theorem dX11_plain_13 : decode cX11_plain 13 = .ok (.iastore, 1) := by decide +kernel
theorem dX11_plain_14 : decode cX11_plain 14 = .ok (.aload_n 0, 1) := by decide +kernel
theorem dX11_plain_15 : decode cX11_plain 15 = .ok (.getfield 61, 3) := by decide +kernel
theorem dX11_plain_18 : decode cX11_plain 18 = .ok (.iload_n 1, 1) := by decide +kernel
theorem dX11_plain_19 : decode cX11_plain 19 = .ok (.iconst 0, 1) := by decide +kernel
theorem dX11_plain_20 : decode cX11_plain 20 = .ok (.iastore, 1) := by decide +kernel
theorem dX11_plain_21 : decode cX11_plain 21 = .ok (.aload_n 0, 1) := by decide +kernel
theorem dX11_plain_22 : decode cX11_plain 22 = .ok (.getfield 70, 3) := by decide +kernel
theorem dX11_plain_25 : decode cX11_plain 25 = .ok (.iload_n 1, 1) := by decide +kernel
theorem dX11_plain_26 : decode cX11_plain 26 = .ok (.iconst 0, 1) := by decide +kernel
theorem dX11_plain_27 : decode cX11_plain 27 = .ok (.iastore, 1) := by decide +kernel
theorem dX11_plain_28 : decode cX11_plain 28 = .ok (.aload_n 0, 1) := by decide +kernel
theorem dX11_plain_29 : decode cX11_plain 29 = .ok (.getfield 88, 3) := by decide +kernel
theorem dX11_plain_32 : decode cX11_plain 32 = .ok (.iload_n 1, 1) := by decide +kernel
theorem dX11_plain_33 : decode cX11_plain 33 = .ok (.iconst 1, 1) := by decide +kernel
theorem dX11_plain_34 : decode cX11_plain 34 = .ok (.iastore, 1) := by decide +kernel
theorem dX11_plain_35 : decode cX11_plain 35 = .ok (.aload_n 0, 1) := by decide +kernel
theorem dX11_plain_36 : decode cX11_plain 36 = .ok (.getfield 91, 3) := by decide +kernel
theorem dX11_plain_39 : decode cX11_plain 39 = .ok (.iload_n 1, 1) := by decide +kernel
theorem dX11_plain_40 : decode cX11_plain 40 = .ok (.iconst 0, 1) := by decide +kernel
theorem dX11_plain_41 : decode cX11_plain 41 = .ok (.iastore, 1) := by decide +kernel
theorem dX11_plain_42 : decode cX11_plain 42 = .ok (.iconst 0, 1) := by decide +kernel
theorem dX11_plain_43 : decode cX11_plain 43 = .ok (.istore_n 2, 1) := by decide +kernel
theorem dX11_plain_44 : decode cX11_plain 44 = .ok (.iload_n 2, 1) := by decide +kernel
theorem dX11_plain_45 : decode cX11_plain 45 = .ok (.iconst 4, 1) := by decide +kernel
theorem dX11_plain_46 : decode cX11_plain 46 = .ok (.if_icmp .ge 31, 3) := by decide +kernel
theorem dX11_plain_49 : decode cX11_plain 49 = .ok (.aload_n 0, 1) := by decide +kernel
theorem dX11_plain_50 : decode cX11_plain 50 = .ok (.getfield 94, 3) := by decide +kernel
theorem dX11_plain_53 : decode cX11_plain 53 = .ok (.iconst 4, 1) := by decide +kernel
theorem dX11_plain_54 : decode cX11_plain 54 = .ok (.iload_n 1, 1) := by decide +kernel
theorem dX11_plain_55 : decode cX11_plain 55 = .ok (.imul, 1) := by decide +kernel
theorem dX11_plain_56 : decode cX11_plain 56 = .ok (.iload_n 2, 1) := by decide +kernel
theorem dX11_plain_57 : decode cX11_plain 57 = .ok (.iadd, 1) := by decide +kernel
theorem dX11_plain_58 : decode cX11_plain 58 = .ok (.iconst 0, 1) := by decide +kernel
theorem dX11_plain_59 : decode cX11_plain 59 = .ok (.iastore, 1) := by decide +kernel
theorem dX11_plain_60 : decode cX11_plain 60 = .ok (.aload_n 0, 1) := by decide +kernel
theorem dX11_plain_61 : decode cX11_plain 61 = .ok (.getfield 97, 3) := by decide +kernel
theorem dX11_plain_64 : decode cX11_plain 64 = .ok (.iconst 4, 1) := by decide +kernel
theorem dX11_plain_65 : decode cX11_plain 65 = .ok (.iload_n 1, 1) := by decide +kernel
theorem dX11_plain_66 : decode cX11_plain 66 = .ok (.imul, 1) := by decide +kernel
theorem dX11_plain_67 : decode cX11_plain 67 = .ok (.iload_n 2, 1) := by decide +kernel
theorem dX11_plain_68 : decode cX11_plain 68 = .ok (.iadd, 1) := by decide +kernel
theorem dX11_plain_69 : decode cX11_plain 69 = .ok (.iconst 0, 1) := by decide +kernel
theorem dX11_plain_70 : decode cX11_plain 70 = .ok (.iastore, 1) := by decide +kernel
theorem dX11_plain_71 : decode cX11_plain 71 = .ok (.iinc 2 1, 3) := by decide +kernel
theorem dX11_plain_74 : decode cX11_plain 74 = .ok (.goto (-30), 3) := by decide +kernel
theorem dX11_plain_77 : decode cX11_plain 77 = .ok (.return_, 1) := by decide +kernel
theorem dX11_read_0 : decode cX11_read 0 = .ok (.aload_n 0, 1) := by decide +kernel
theorem dX11_read_1 : decode cX11_read 1 = .ok (.aload_n 0, 1) := by decide +kernel
theorem dX11_read_2 : decode cX11_read 2 = .ok (.getfield 187, 3) := by decide +kernel
theorem dX11_read_5 : decode cX11_read 5 = .ok (.putfield 193, 3) := by decide +kernel
theorem dX11_read_8 : decode cX11_read 8 = .ok (.iconst 0, 1) := by decide +kernel
theorem dX11_read_9 : decode cX11_read 9 = .ok (.istore_n 1, 1) := by decide +kernel
theorem dX11_read_10 : decode cX11_read 10 = .ok (.iload_n 1, 1) := by decide +kernel
theorem dX11_read_11 : decode cX11_read 11 = .ok (.aload_n 0, 1) := by decide +kernel
theorem dX11_read_12 : decode cX11_read 12 = .ok (.getfield 193, 3) := by decide +kernel
theorem dX11_read_15 : decode cX11_read 15 = .ok (.if_icmp .ge 21, 3) := by decide +kernel
theorem dX11_read_18 : decode cX11_read 18 = .ok (.aload_n 0, 1) := by decide +kernel
theorem dX11_read_19 : decode cX11_read 19 = .ok (.getfield 17, 3) := by decide +kernel
theorem dX11_read_22 : decode cX11_read 22 = .ok (.iload_n 1, 1) := by decide +kernel
theorem dX11_read_23 : decode cX11_read 23 = .ok (.aload_n 0, 1) := by decide +kernel
theorem dX11_read_24 : decode cX11_read 24 = .ok (.getfield 13, 3) := by decide +kernel
theorem dX11_read_27 : decode cX11_read 27 = .ok (.iload_n 1, 1) := by decide +kernel
theorem dX11_read_28 : decode cX11_read 28 = .ok (.baload, 1) := by decide +kernel
theorem dX11_read_29 : decode cX11_read 29 = .ok (.bastore, 1) := by decide +kernel
theorem dX11_read_30 : decode cX11_read 30 = .ok (.iinc 1 1, 3) := by decide +kernel
theorem dX11_read_33 : decode cX11_read 33 = .ok (.goto (-23), 3) := by decide +kernel
theorem dX11_read_36 : decode cX11_read 36 = .ok (.aload_n 0, 1) := by decide +kernel
theorem dX11_read_37 : decode cX11_read 37 = .ok (.iconst 0, 1) := by decide +kernel
theorem dX11_read_38 : decode cX11_read 38 = .ok (.putfield 187, 3) := by decide +kernel
theorem dX11_read_41 : decode cX11_read 41 = .ok (.aload_n 0, 1) := by decide +kernel
theorem dX11_read_42 : decode cX11_read 42 = .ok (.invokevirtual 248, 3) := by decide +kernel
theorem dX11_read_45 : decode cX11_read 45 = .ok (.aload_n 0, 1) := by decide +kernel
theorem dX11_read_46 : decode cX11_read 46 = .ok (.iconst 0, 1) := by decide +kernel
theorem dX11_read_47 : decode cX11_read 47 = .ok (.putfield 227, 3) := by decide +kernel
theorem dX11_read_50 : decode cX11_read 50 = .ok (.aload_n 0, 1) := by decide +kernel
theorem dX11_read_51 : decode cX11_read 51 = .ok (.iconst 0, 1) := by decide +kernel
theorem dX11_read_52 : decode cX11_read 52 = .ok (.putfield 251, 3) := by decide +kernel
theorem dX11_read_55 : decode cX11_read 55 = .ok (.aload_n 0, 1) := by decide +kernel
theorem dX11_read_56 : decode cX11_read 56 = .ok (.iconst 0, 1) := by decide +kernel
theorem dX11_read_57 : decode cX11_read 57 = .ok (.putfield 224, 3) := by decide +kernel
theorem dX11_read_60 : decode cX11_read 60 = .ok (.aload_n 0, 1) := by decide +kernel
theorem dX11_read_61 : decode cX11_read 61 = .ok (.iconst 0, 1) := by decide +kernel
theorem dX11_read_62 : decode cX11_read 62 = .ok (.putfield 233, 3) := by decide +kernel
theorem dX11_read_65 : decode cX11_read 65 = .ok (.aload_n 0, 1) := by decide +kernel
theorem dX11_read_66 : decode cX11_read 66 = .ok (.iconst 1, 1) := by decide +kernel
theorem dX11_read_67 : decode cX11_read 67 = .ok (.aload_n 0, 1) := by decide +kernel
theorem dX11_read_68 : decode cX11_read 68 = .ok (.getfield 254, 3) := by decide +kernel
theorem dX11_read_71 : decode cX11_read 71 = .ok (.isub, 1) := by decide +kernel
theorem dX11_read_72 : decode cX11_read 72 = .ok (.putfield 257, 3) := by decide +kernel
theorem dX11_read_75 : decode cX11_read 75 = .ok (.aload_n 0, 1) := by decide +kernel
theorem dX11_read_76 : decode cX11_read 76 = .ok (.iconst 0, 1) := by decide +kernel
theorem dX11_read_77 : decode cX11_read 77 = .ok (.putfield 260, 3) := by decide +kernel
theorem dX11_read_80 : decode cX11_read 80 = .ok (.aload_n 0, 1) := by decide +kernel
theorem dX11_read_81 : decode cX11_read 81 = .ok (.aload_n 0, 1) := by decide +kernel
theorem dX11_read_82 : decode cX11_read 82 = .ok (.getfield 257, 3) := by decide +kernel
theorem dX11_read_85 : decode cX11_read 85 = .ok (.invokevirtual 173, 3) := by decide +kernel
theorem dX11_read_88 : decode cX11_read 88 = .ok (.aload_n 0, 1) := by decide +kernel
theorem dX11_read_89 : decode cX11_read 89 = .ok (.sipush 130, 3) := by decide +kernel
theorem dX11_read_92 : decode cX11_read 92 = .ok (.aload_n 0, 1) := by decide +kernel
theorem dX11_read_93 : decode cX11_read 93 = .ok (.getfield 257, 3) := by decide +kernel
theorem dX11_read_96 : decode cX11_read 96 = .ok (.imul, 1) := by decide +kernel
theorem dX11_read_97 : decode cX11_read 97 = .ok (.putfield 263, 3) := by decide +kernel
theorem dX11_read_100 : decode cX11_read 100 = .ok (.aload_n 0, 1) := by decide +kernel
theorem dX11_read_101 : decode cX11_read 101 = .ok (.sipush 420, 3) := by decide +kernel
theorem dX11_read_104 : decode cX11_read 104 = .ok (.aload_n 0, 1) := by decide +kernel
theorem dX11_read_105 : decode cX11_read 105 = .ok (.getfield 257, 3) := by decide +kernel
theorem dX11_read_108 : decode cX11_read 108 = .ok (.imul, 1) := by decide +kernel
theorem dX11_read_109 : decode cX11_read 109 = .ok (.putfield 266, 3) := by decide +kernel
theorem dX11_read_112 : decode cX11_read 112 = .ok (.aload_n 0, 1) := by decide +kernel
theorem dX11_read_113 : decode cX11_read 113 = .ok (.getfield 224, 3) := by decide +kernel
theorem dX11_read_116 : decode cX11_read 116 = .ok (.ifCond .ne 18, 3) := by decide +kernel
theorem dX11_read_119 : decode cX11_read 119 = .ok (.aload_n 0, 1) := by decide +kernel
theorem dX11_read_120 : decode cX11_read 120 = .ok (.iconst 0, 1) := by decide +kernel
theorem dX11_read_121 : decode cX11_read 121 = .ok (.invokevirtual 242, 3) := by decide +kernel
theorem dX11_read_124 : decode cX11_read 124 = .ok (.ifCond .ne 10, 3) := by decide +kernel
theorem dX11_read_127 : decode cX11_read 127 = .ok (.aload_n 0, 1) := by decide +kernel
theorem dX11_read_128 : decode cX11_read 128 = .ok (.invokevirtual 269, 3) := by decide +kernel
theorem dX11_read_131 : decode cX11_read 131 = .ok (.goto (-19), 3) := by decide +kernel
theorem dX11_read_134 : decode cX11_read 134 = .ok (.aload_n 0, 1) := by decide +kernel
theorem dX11_read_135 : decode cX11_read 135 = .ok (.aload_n 0, 1) := by decide +kernel
theorem dX11_read_136 : decode cX11_read 136 = .ok (.getfield 224, 3) := by decide +kernel
theorem dX11_read_139 : decode cX11_read 139 = .ok (.ifCond .le 10, 3) := by decide +kernel
theorem dX11_read_142 : decode cX11_read 142 = .ok (.aload_n 0, 1) := by decide +kernel
theorem dX11_read_143 : decode cX11_read 143 = .ok (.getfield 230, 3) := by decide +kernel
theorem dX11_read_146 : decode cX11_read 146 = .ok (.goto 18, 3) := by decide +kernel
theorem dX11_read_149 : decode cX11_read 149 = .ok (.aload_n 0, 1) := by decide +kernel
theorem dX11_read_150 : decode cX11_read 150 = .ok (.getfield 233, 3) := by decide +kernel
theorem dX11_read_153 : decode cX11_read 153 = .ok (.ifCond .le 10, 3) := by decide +kernel
theorem dX11_read_156 : decode cX11_read 156 = .ok (.aload_n 0, 1) := by decide +kernel
theorem dX11_read_157 : decode cX11_read 157 = .ok (.getfield 236, 3) := by decide +kernel
theorem dX11_read_160 : decode cX11_read 160 = .ok (.goto 4, 3) := by decide +kernel
theorem dX11_read_163 : decode cX11_read 163 = .ok (.iconst (-1), 1) := by decide +kernel
theorem dX11_read_164 : decode cX11_read 164 = .ok (.putfield 37, 3) := by decide +kernel
theorem dX11_read_167 : decode cX11_read 167 = .ok (.aload_n 0, 1) := by decide +kernel
theorem dX11_read_168 : decode cX11_read 168 = .ok (.getfield 224, 3) := by decide +kernel
theorem dX11_read_171 : decode cX11_read 171 = .ok (.ifCond .le 8, 3) := by decide +kernel
theorem dX11_read_174 : decode cX11_read 174 = .ok (.aload_n 0, 1) := by decide +kernel
theorem dX11_read_175 : decode cX11_read 175 = .ok (.getfield 224, 3) := by decide +kernel
theorem dX11_read_178 : decode cX11_read 178 = .ok (.ireturn, 1) := by decide +kernel
theorem dX11_read_179 : decode cX11_read 179 = .ok (.aload_n 0, 1) := by decide +kernel
theorem dX11_read_180 : decode cX11_read 180 = .ok (.getfield 233, 3) := by decide +kernel
theorem dX11_read_183 : decode cX11_read 183 = .ok (.ifCond .le 8, 3) := by decide +kernel
theorem dX11_read_186 : decode cX11_read 186 = .ok (.aload_n 0, 1) := by decide +kernel
theorem dX11_read_187 : decode cX11_read 187 = .ok (.getfield 233, 3) := by decide +kernel
theorem dX11_read_190 : decode cX11_read 190 = .ok (.ireturn, 1) := by decide +kernel
theorem dX11_read_191 : decode cX11_read 191 = .ok (.aload_n 0, 1) := by decide +kernel
theorem dX11_read_192 : decode cX11_read 192 = .ok (.aload_n 0, 1) := by decide +kernel
theorem dX11_read_193 : decode cX11_read 193 = .ok (.getfield 257, 3) := by decide +kernel
theorem dX11_read_196 : decode cX11_read 196 = .ok (.putfield 254, 3) := by decide +kernel
theorem dX11_read_199 : decode cX11_read 199 = .ok (.aload_n 0, 1) := by decide +kernel
theorem dX11_read_200 : decode cX11_read 200 = .ok (.invokevirtual 181, 3) := by decide +kernel
theorem dX11_read_203 : decode cX11_read 203 = .ok (.aload_n 0, 1) := by decide +kernel
theorem dX11_read_204 : decode cX11_read 204 = .ok (.invokevirtual 184, 3) := by decide +kernel
theorem dX11_read_207 : decode cX11_read 207 = .ok (.aload_n 0, 1) := by decide +kernel
theorem dX11_read_208 : decode cX11_read 208 = .ok (.iconst 0, 1) := by decide +kernel
theorem dX11_read_209 : decode cX11_read 209 = .ok (.putfield 272, 3) := by decide +kernel
theorem dX11_read_212 : decode cX11_read 212 = .ok (.aload_n 0, 1) := by decide +kernel
theorem dX11_read_213 : decode cX11_read 213 = .ok (.iconst 0, 1) := by decide +kernel
theorem dX11_read_214 : decode cX11_read 214 = .ok (.putfield 275, 3) := by decide +kernel
theorem dX11_read_217 : decode cX11_read 217 = .ok (.iconst 0, 1) := by decide +kernel
theorem dX11_read_218 : decode cX11_read 218 = .ok (.istore_n 1, 1) := by decide +kernel
theorem dX11_read_219 : decode cX11_read 219 = .ok (.iload_n 1, 1) := by decide +kernel
theorem dX11_read_220 : decode cX11_read 220 = .ok (.iconst 3, 1) := by decide +kernel
theorem dX11_read_221 : decode cX11_read 221 = .ok (.if_icmp .ge 16, 3) := by decide +kernel
theorem dX11_read_224 : decode cX11_read 224 = .ok (.aload_n 0, 1) := by decide +kernel
theorem dX11_read_225 : decode cX11_read 225 = .ok (.getfield 167, 3) := by decide +kernel
theorem dX11_read_228 : decode cX11_read 228 = .ok (.iload_n 1, 1) := by decide +kernel
theorem dX11_read_229 : decode cX11_read 229 = .ok (.iconst 0, 1) := by decide +kernel
theorem dX11_read_230 : decode cX11_read 230 = .ok (.bastore, 1) := by decide +kernel
theorem dX11_read_231 : decode cX11_read 231 = .ok (.iinc 1 1, 3) := by decide +kernel
theorem dX11_read_234 : decode cX11_read 234 = .ok (.goto (-15), 3) := by decide +kernel
theorem dX11_read_237 : decode cX11_read 237 = .ok (.iconst 0, 1) := by decide +kernel
theorem dX11_read_238 : decode cX11_read 238 = .ok (.ireturn, 1) := by decide +kernel
theorem dX11_place_0 : decode cX11_place 0 = .ok (.aload_n 0, 1) := by decide +kernel
theorem dX11_place_1 : decode cX11_place 1 = .ok (.getfield 37, 3) := by decide +kernel
theorem dX11_place_4 : decode cX11_place 4 = .ok (.ireturn, 1) := by decide +kernel
theorem dX11_roomFor_0 : decode cX11_roomFor 0 = .ok (.iload_n 1, 1) := by decide +kernel
theorem dX11_roomFor_1 : decode cX11_roomFor 1 = .ok (.iload_n 2, 1) := by decide +kernel
theorem dX11_roomFor_2 : decode cX11_roomFor 2 = .ok (.if_icmp .ne 8, 3) := by decide +kernel
theorem dX11_roomFor_5 : decode cX11_roomFor 5 = .ok (.aload_n 0, 1) := by decide +kernel
theorem dX11_roomFor_6 : decode cX11_roomFor 6 = .ok (.iconst 2, 1) := by decide +kernel
theorem dX11_roomFor_7 : decode cX11_roomFor 7 = .ok (.invokevirtual 239, 3) := by decide +kernel
theorem dX11_roomFor_10 : decode cX11_roomFor 10 = .ok (.aload_n 0, 1) := by decide +kernel
theorem dX11_roomFor_11 : decode cX11_roomFor 11 = .ok (.getfield 224, 3) := by decide +kernel
theorem dX11_roomFor_14 : decode cX11_roomFor 14 = .ok (.ifCond .ne 7, 3) := by decide +kernel
theorem dX11_roomFor_17 : decode cX11_roomFor 17 = .ok (.aload_n 0, 1) := by decide +kernel
theorem dX11_roomFor_18 : decode cX11_roomFor 18 = .ok (.invokevirtual 245, 3) := by decide +kernel
theorem dX11_roomFor_21 : decode cX11_roomFor 21 = .ok (.return_, 1) := by decide +kernel
theorem dX11_toldInt_0 : decode cX11_toldInt 0 = .ok (.aload_n 0, 1) := by decide +kernel
theorem dX11_toldInt_1 : decode cX11_toldInt 1 = .ok (.invokevirtual 245, 3) := by decide +kernel
theorem dX11_toldInt_4 : decode cX11_toldInt 4 = .ok (.aload_n 0, 1) := by decide +kernel
theorem dX11_toldInt_5 : decode cX11_toldInt 5 = .ok (.iload_n 1, 1) := by decide +kernel
theorem dX11_toldInt_6 : decode cX11_toldInt 6 = .ok (.iload_n 2, 1) := by decide +kernel
theorem dX11_toldInt_7 : decode cX11_toldInt 7 = .ok (.invokevirtual 278, 3) := by decide +kernel
theorem dX11_toldInt_10 : decode cX11_toldInt 10 = .ok (.istore_n 3, 1) := by decide +kernel
theorem dX11_toldInt_11 : decode cX11_toldInt 11 = .ok (.aload_n 0, 1) := by decide +kernel
theorem dX11_toldInt_12 : decode cX11_toldInt 12 = .ok (.iconst 4, 1) := by decide +kernel
theorem dX11_toldInt_13 : decode cX11_toldInt 13 = .ok (.invokevirtual 282, 3) := by decide +kernel
theorem dX11_toldInt_16 : decode cX11_toldInt 16 = .ok (.iload_n 3, 1) := by decide +kernel
theorem dX11_toldInt_17 : decode cX11_toldInt 17 = .ok (.ireturn, 1) := by decide +kernel
theorem dX11_tellOne_0 : decode cX11_tellOne 0 = .ok (.aload_n 0, 1) := by decide +kernel
theorem dX11_tellOne_1 : decode cX11_tellOne 1 = .ok (.getfield 20, 3) := by decide +kernel
theorem dX11_tellOne_4 : decode cX11_tellOne 4 = .ok (.aload_n 0, 1) := by decide +kernel
theorem dX11_tellOne_5 : decode cX11_tellOne 5 = .ok (.getfield 227, 3) := by decide +kernel
theorem dX11_tellOne_8 : decode cX11_tellOne 8 = .ok (.iaload, 1) := by decide +kernel
theorem dX11_tellOne_9 : decode cX11_tellOne 9 = .ok (.tableswitch 243 20 29 #[55, 118, 147, 176, 243, 243, 243, 243, 205, 223], 55) := by decide +kernel
theorem dX11_tellOne_64 : decode cX11_tellOne 64 = .ok (.aload_n 0, 1) := by decide +kernel
theorem dX11_tellOne_65 : decode cX11_tellOne 65 = .ok (.aload_n 0, 1) := by decide +kernel
theorem dX11_tellOne_66 : decode cX11_tellOne 66 = .ok (.getfield 46, 3) := by decide +kernel
theorem dX11_tellOne_69 : decode cX11_tellOne 69 = .ok (.aload_n 0, 1) := by decide +kernel
theorem dX11_tellOne_70 : decode cX11_tellOne 70 = .ok (.getfield 257, 3) := by decide +kernel
theorem dX11_tellOne_73 : decode cX11_tellOne 73 = .ok (.iaload, 1) := by decide +kernel
theorem dX11_tellOne_74 : decode cX11_tellOne 74 = .ok (.bipush 6, 2) := by decide +kernel
theorem dX11_tellOne_76 : decode cX11_tellOne 76 = .ok (.invokevirtual 285, 3) := by decide +kernel
theorem dX11_tellOne_79 : decode cX11_tellOne 79 = .ok (.aload_n 0, 1) := by decide +kernel
theorem dX11_tellOne_80 : decode cX11_tellOne 80 = .ok (.getfield 224, 3) := by decide +kernel
theorem dX11_tellOne_83 : decode cX11_tellOne 83 = .ok (.ifCond .le 4, 3) := by decide +kernel
theorem dX11_tellOne_86 : decode cX11_tellOne 86 = .ok (.return_, 1) := by decide +kernel
theorem dX11_tellOne_87 : decode cX11_tellOne 87 = .ok (.aload_n 0, 1) := by decide +kernel
theorem dX11_tellOne_88 : decode cX11_tellOne 88 = .ok (.aload_n 0, 1) := by decide +kernel
theorem dX11_tellOne_89 : decode cX11_tellOne 89 = .ok (.invokevirtual 289, 3) := by decide +kernel
theorem dX11_tellOne_92 : decode cX11_tellOne 92 = .ok (.aload_n 0, 1) := by decide +kernel
theorem dX11_tellOne_93 : decode cX11_tellOne 93 = .ok (.getfield 46, 3) := by decide +kernel
theorem dX11_tellOne_96 : decode cX11_tellOne 96 = .ok (.aload_n 0, 1) := by decide +kernel
theorem dX11_tellOne_97 : decode cX11_tellOne 97 = .ok (.getfield 257, 3) := by decide +kernel
theorem dX11_tellOne_100 : decode cX11_tellOne 100 = .ok (.iaload, 1) := by decide +kernel
theorem dX11_tellOne_101 : decode cX11_tellOne 101 = .ok (.invokevirtual 293, 3) := by decide +kernel
theorem dX11_tellOne_104 : decode cX11_tellOne 104 = .ok (.aload_n 0, 1) := by decide +kernel
theorem dX11_tellOne_105 : decode cX11_tellOne 105 = .ok (.getfield 224, 3) := by decide +kernel
theorem dX11_tellOne_108 : decode cX11_tellOne 108 = .ok (.ifCond .ne 197, 3) := by decide +kernel
theorem dX11_tellOne_111 : decode cX11_tellOne 111 = .ok (.aload_n 0, 1) := by decide +kernel
theorem dX11_tellOne_112 : decode cX11_tellOne 112 = .ok (.getfield 46, 3) := by decide +kernel
theorem dX11_tellOne_115 : decode cX11_tellOne 115 = .ok (.aload_n 0, 1) := by decide +kernel
theorem dX11_tellOne_116 : decode cX11_tellOne 116 = .ok (.getfield 257, 3) := by decide +kernel
theorem dX11_tellOne_119 : decode cX11_tellOne 119 = .ok (.dup2, 1) := by decide +kernel
theorem dX11_tellOne_120 : decode cX11_tellOne 120 = .ok (.iaload, 1) := by decide +kernel
theorem dX11_tellOne_121 : decode cX11_tellOne 121 = .ok (.iconst 1, 1) := by decide +kernel
theorem dX11_tellOne_122 : decode cX11_tellOne 122 = .ok (.iadd, 1) := by decide +kernel
theorem dX11_tellOne_123 : decode cX11_tellOne 123 = .ok (.iastore, 1) := by decide +kernel
theorem dX11_tellOne_124 : decode cX11_tellOne 124 = .ok (.goto 181, 3) := by decide +kernel
theorem dX11_tellOne_127 : decode cX11_tellOne 127 = .ok (.aload_n 0, 1) := by decide +kernel
theorem dX11_tellOne_128 : decode cX11_tellOne 128 = .ok (.aload_n 0, 1) := by decide +kernel
theorem dX11_tellOne_129 : decode cX11_tellOne 129 = .ok (.getfield 49, 3) := by decide +kernel
theorem dX11_tellOne_132 : decode cX11_tellOne 132 = .ok (.aload_n 0, 1) := by decide +kernel
theorem dX11_tellOne_133 : decode cX11_tellOne 133 = .ok (.getfield 257, 3) := by decide +kernel
theorem dX11_tellOne_136 : decode cX11_tellOne 136 = .ok (.iaload, 1) := by decide +kernel
theorem dX11_tellOne_137 : decode cX11_tellOne 137 = .ok (.bipush 7, 2) := by decide +kernel
theorem dX11_tellOne_139 : decode cX11_tellOne 139 = .ok (.invokevirtual 285, 3) := by decide +kernel
theorem dX11_tellOne_142 : decode cX11_tellOne 142 = .ok (.aload_n 0, 1) := by decide +kernel
theorem dX11_tellOne_143 : decode cX11_tellOne 143 = .ok (.getfield 224, 3) := by decide +kernel
theorem dX11_tellOne_146 : decode cX11_tellOne 146 = .ok (.ifCond .ne 159, 3) := by decide +kernel
theorem dX11_tellOne_149 : decode cX11_tellOne 149 = .ok (.aload_n 0, 1) := by decide +kernel
theorem dX11_tellOne_150 : decode cX11_tellOne 150 = .ok (.invokevirtual 296, 3) := by decide +kernel
theorem dX11_tellOne_153 : decode cX11_tellOne 153 = .ok (.goto 152, 3) := by decide +kernel
theorem dX11_tellOne_156 : decode cX11_tellOne 156 = .ok (.aload_n 0, 1) := by decide +kernel
theorem dX11_tellOne_157 : decode cX11_tellOne 157 = .ok (.aload_n 0, 1) := by decide +kernel
theorem dX11_tellOne_158 : decode cX11_tellOne 158 = .ok (.getfield 61, 3) := by decide +kernel
theorem dX11_tellOne_161 : decode cX11_tellOne 161 = .ok (.aload_n 0, 1) := by decide +kernel
theorem dX11_tellOne_162 : decode cX11_tellOne 162 = .ok (.getfield 257, 3) := by decide +kernel
theorem dX11_tellOne_165 : decode cX11_tellOne 165 = .ok (.iaload, 1) := by decide +kernel
theorem dX11_tellOne_166 : decode cX11_tellOne 166 = .ok (.bipush 7, 2) := by decide +kernel
theorem dX11_tellOne_168 : decode cX11_tellOne 168 = .ok (.invokevirtual 285, 3) := by decide +kernel
theorem dX11_tellOne_171 : decode cX11_tellOne 171 = .ok (.aload_n 0, 1) := by decide +kernel
theorem dX11_tellOne_172 : decode cX11_tellOne 172 = .ok (.getfield 224, 3) := by decide +kernel
theorem dX11_tellOne_175 : decode cX11_tellOne 175 = .ok (.ifCond .ne 130, 3) := by decide +kernel
theorem dX11_tellOne_178 : decode cX11_tellOne 178 = .ok (.aload_n 0, 1) := by decide +kernel
theorem dX11_tellOne_179 : decode cX11_tellOne 179 = .ok (.invokevirtual 299, 3) := by decide +kernel
theorem dX11_tellOne_182 : decode cX11_tellOne 182 = .ok (.goto 123, 3) := by decide +kernel
theorem dX11_tellOne_185 : decode cX11_tellOne 185 = .ok (.aload_n 0, 1) := by decide +kernel
theorem dX11_tellOne_186 : decode cX11_tellOne 186 = .ok (.aload_n 0, 1) := by decide +kernel
theorem dX11_tellOne_187 : decode cX11_tellOne 187 = .ok (.getfield 70, 3) := by decide +kernel
theorem dX11_tellOne_190 : decode cX11_tellOne 190 = .ok (.aload_n 0, 1) := by decide +kernel
theorem dX11_tellOne_191 : decode cX11_tellOne 191 = .ok (.getfield 257, 3) := by decide +kernel
theorem dX11_tellOne_194 : decode cX11_tellOne 194 = .ok (.iaload, 1) := by decide +kernel
theorem dX11_tellOne_195 : decode cX11_tellOne 195 = .ok (.bipush 12, 2) := by decide +kernel
theorem dX11_tellOne_197 : decode cX11_tellOne 197 = .ok (.invokevirtual 285, 3) := by decide +kernel
theorem dX11_tellOne_200 : decode cX11_tellOne 200 = .ok (.aload_n 0, 1) := by decide +kernel
theorem dX11_tellOne_201 : decode cX11_tellOne 201 = .ok (.getfield 224, 3) := by decide +kernel
theorem dX11_tellOne_204 : decode cX11_tellOne 204 = .ok (.ifCond .ne 101, 3) := by decide +kernel
theorem dX11_tellOne_207 : decode cX11_tellOne 207 = .ok (.aload_n 0, 1) := by decide +kernel
theorem dX11_tellOne_208 : decode cX11_tellOne 208 = .ok (.invokevirtual 302, 3) := by decide +kernel
theorem dX11_tellOne_211 : decode cX11_tellOne 211 = .ok (.goto 94, 3) := by decide +kernel
theorem dX11_tellOne_214 : decode cX11_tellOne 214 = .ok (.aload_n 0, 1) := by decide +kernel
theorem dX11_tellOne_215 : decode cX11_tellOne 215 = .ok (.getfield 88, 3) := by decide +kernel
theorem dX11_tellOne_218 : decode cX11_tellOne 218 = .ok (.aload_n 0, 1) := by decide +kernel
theorem dX11_tellOne_219 : decode cX11_tellOne 219 = .ok (.getfield 257, 3) := by decide +kernel
theorem dX11_tellOne_222 : decode cX11_tellOne 222 = .ok (.aload_n 0, 1) := by decide +kernel
theorem dX11_tellOne_223 : decode cX11_tellOne 223 = .ok (.iconst 1, 1) := by decide +kernel
theorem dX11_tellOne_224 : decode cX11_tellOne 224 = .ok (.iconst 4, 1) := by decide +kernel
theorem dX11_tellOne_225 : decode cX11_tellOne 225 = .ok (.invokevirtual 305, 3) := by decide +kernel
theorem dX11_tellOne_228 : decode cX11_tellOne 228 = .ok (.iastore, 1) := by decide +kernel
theorem dX11_tellOne_229 : decode cX11_tellOne 229 = .ok (.goto 76, 3) := by decide +kernel
theorem dX11_tellOne_232 : decode cX11_tellOne 232 = .ok (.aload_n 0, 1) := by decide +kernel
theorem dX11_tellOne_233 : decode cX11_tellOne 233 = .ok (.getfield 91, 3) := by decide +kernel
theorem dX11_tellOne_236 : decode cX11_tellOne 236 = .ok (.aload_n 0, 1) := by decide +kernel
theorem dX11_tellOne_237 : decode cX11_tellOne 237 = .ok (.getfield 257, 3) := by decide +kernel
theorem dX11_tellOne_240 : decode cX11_tellOne 240 = .ok (.aload_n 0, 1) := by decide +kernel
theorem dX11_tellOne_241 : decode cX11_tellOne 241 = .ok (.iconst 0, 1) := by decide +kernel
theorem dX11_tellOne_242 : decode cX11_tellOne 242 = .ok (.sipush 9999, 3) := by decide +kernel
theorem dX11_tellOne_245 : decode cX11_tellOne 245 = .ok (.invokevirtual 305, 3) := by decide +kernel
theorem dX11_tellOne_248 : decode cX11_tellOne 248 = .ok (.iastore, 1) := by decide +kernel
theorem dX11_tellOne_249 : decode cX11_tellOne 249 = .ok (.goto 56, 3) := by decide +kernel
theorem dX11_tellOne_252 : decode cX11_tellOne 252 = .ok (.aload_n 0, 1) := by decide +kernel
theorem dX11_tellOne_253 : decode cX11_tellOne 253 = .ok (.getfield 20, 3) := by decide +kernel
theorem dX11_tellOne_256 : decode cX11_tellOne 256 = .ok (.aload_n 0, 1) := by decide +kernel
theorem dX11_tellOne_257 : decode cX11_tellOne 257 = .ok (.getfield 227, 3) := by decide +kernel
theorem dX11_tellOne_260 : decode cX11_tellOne 260 = .ok (.iaload, 1) := by decide +kernel
theorem dX11_tellOne_261 : decode cX11_tellOne 261 = .ok (.bipush 24, 2) := by decide +kernel
theorem dX11_tellOne_263 : decode cX11_tellOne 263 = .ok (.isub, 1) := by decide +kernel
theorem dX11_tellOne_264 : decode cX11_tellOne 264 = .ok (.istore_n 1, 1) := by decide +kernel
theorem dX11_tellOne_265 : decode cX11_tellOne 265 = .ok (.iload_n 1, 1) := by decide +kernel
theorem dX11_tellOne_266 : decode cX11_tellOne 266 = .ok (.ifCond .lt 17, 3) := by decide +kernel
theorem dX11_tellOne_269 : decode cX11_tellOne 269 = .ok (.aload_n 0, 1) := by decide +kernel
theorem dX11_tellOne_270 : decode cX11_tellOne 270 = .ok (.getfield 20, 3) := by decide +kernel
theorem dX11_tellOne_273 : decode cX11_tellOne 273 = .ok (.aload_n 0, 1) := by decide +kernel
theorem dX11_tellOne_274 : decode cX11_tellOne 274 = .ok (.getfield 227, 3) := by decide +kernel
theorem dX11_tellOne_277 : decode cX11_tellOne 277 = .ok (.iaload, 1) := by decide +kernel
theorem dX11_tellOne_278 : decode cX11_tellOne 278 = .ok (.bipush 27, 2) := by decide +kernel
theorem dX11_tellOne_280 : decode cX11_tellOne 280 = .ok (.if_icmp .le 8, 3) := by decide +kernel
theorem dX11_tellOne_283 : decode cX11_tellOne 283 = .ok (.aload_n 0, 1) := by decide +kernel
theorem dX11_tellOne_284 : decode cX11_tellOne 284 = .ok (.iconst 1, 1) := by decide +kernel
theorem dX11_tellOne_285 : decode cX11_tellOne 285 = .ok (.invokevirtual 239, 3) := by decide +kernel
theorem dX11_tellOne_288 : decode cX11_tellOne 288 = .ok (.aload_n 0, 1) := by decide +kernel
theorem dX11_tellOne_289 : decode cX11_tellOne 289 = .ok (.getfield 224, 3) := by decide +kernel
theorem dX11_tellOne_292 : decode cX11_tellOne 292 = .ok (.ifCond .le 4, 3) := by decide +kernel
theorem dX11_tellOne_295 : decode cX11_tellOne 295 = .ok (.return_, 1) := by decide +kernel
theorem dX11_tellOne_296 : decode cX11_tellOne 296 = .ok (.aload_n 0, 1) := by decide +kernel
theorem dX11_tellOne_297 : decode cX11_tellOne 297 = .ok (.invokevirtual 245, 3) := by decide +kernel
theorem dX11_tellOne_300 : decode cX11_tellOne 300 = .ok (.aload_n 0, 1) := by decide +kernel
theorem dX11_tellOne_301 : decode cX11_tellOne 301 = .ok (.iload_n 1, 1) := by decide +kernel
theorem dX11_tellOne_302 : decode cX11_tellOne 302 = .ok (.invokevirtual 308, 3) := by decide +kernel
theorem dX11_tellOne_305 : decode cX11_tellOne 305 = .ok (.return_, 1) := by decide +kernel
theorem dX11_named_0 : decode cX11_named 0 = .ok (.aload_n 0, 1) := by decide +kernel
theorem dX11_named_1 : decode cX11_named 1 = .ok (.getfield 227, 3) := by decide +kernel
theorem dX11_named_4 : decode cX11_named 4 = .ok (.istore_n 1, 1) := by decide +kernel
theorem dX11_named_5 : decode cX11_named 5 = .ok (.aload_n 0, 1) := by decide +kernel
theorem dX11_named_6 : decode cX11_named 6 = .ok (.iconst 1, 1) := by decide +kernel
theorem dX11_named_7 : decode cX11_named 7 = .ok (.invokevirtual 282, 3) := by decide +kernel
theorem dX11_named_10 : decode cX11_named 10 = .ok (.iconst 0, 1) := by decide +kernel
theorem dX11_named_11 : decode cX11_named 11 = .ok (.istore_n 2, 1) := by decide +kernel
theorem dX11_named_12 : decode cX11_named 12 = .ok (.iload_n 2, 1) := by decide +kernel
theorem dX11_named_13 : decode cX11_named 13 = .ok (.aload_n 0, 1) := by decide +kernel
theorem dX11_named_14 : decode cX11_named 14 = .ok (.getfield 260, 3) := by decide +kernel
theorem dX11_named_17 : decode cX11_named 17 = .ok (.if_icmp .ge 38, 3) := by decide +kernel
theorem dX11_named_20 : decode cX11_named 20 = .ok (.aload_n 0, 1) := by decide +kernel
theorem dX11_named_21 : decode cX11_named 21 = .ok (.getfield 224, 3) := by decide +kernel
theorem dX11_named_24 : decode cX11_named 24 = .ok (.ifCond .ne 31, 3) := by decide +kernel
theorem dX11_named_27 : decode cX11_named 27 = .ok (.aload_n 0, 1) := by decide +kernel
theorem dX11_named_28 : decode cX11_named 28 = .ok (.getfield 40, 3) := by decide +kernel
theorem dX11_named_31 : decode cX11_named 31 = .ok (.iload_n 2, 1) := by decide +kernel
theorem dX11_named_32 : decode cX11_named 32 = .ok (.laload, 1) := by decide +kernel
theorem dX11_named_33 : decode cX11_named 33 = .ok (.aload_n 0, 1) := by decide +kernel
theorem dX11_named_34 : decode cX11_named 34 = .ok (.getfield 30, 3) := by decide +kernel
theorem dX11_named_37 : decode cX11_named 37 = .ok (.iload_n 1, 1) := by decide +kernel
theorem dX11_named_38 : decode cX11_named 38 = .ok (.laload, 1) := by decide +kernel
theorem dX11_named_39 : decode cX11_named 39 = .ok (.lcmp, 1) := by decide +kernel
theorem dX11_named_40 : decode cX11_named 40 = .ok (.ifCond .ne 9, 3) := by decide +kernel
theorem dX11_named_43 : decode cX11_named 43 = .ok (.aload_n 0, 1) := by decide +kernel
theorem dX11_named_44 : decode cX11_named 44 = .ok (.iconst 3, 1) := by decide +kernel
theorem dX11_named_45 : decode cX11_named 45 = .ok (.iload_n 1, 1) := by decide +kernel
theorem dX11_named_46 : decode cX11_named 46 = .ok (.invokevirtual 311, 3) := by decide +kernel
theorem dX11_named_49 : decode cX11_named 49 = .ok (.iinc 2 1, 3) := by decide +kernel
theorem dX11_named_52 : decode cX11_named 52 = .ok (.goto (-40), 3) := by decide +kernel
theorem dX11_named_55 : decode cX11_named 55 = .ok (.iload_n 1, 1) := by decide +kernel
theorem dX11_named_56 : decode cX11_named 56 = .ok (.ireturn, 1) := by decide +kernel
theorem dX11_ends_0 : decode cX11_ends 0 = .ok (.aload_n 0, 1) := by decide +kernel
theorem dX11_ends_1 : decode cX11_ends 1 = .ok (.iconst 4, 1) := by decide +kernel
theorem dX11_ends_2 : decode cX11_ends 2 = .ok (.invokevirtual 282, 3) := by decide +kernel
theorem dX11_ends_5 : decode cX11_ends 5 = .ok (.aload_n 0, 1) := by decide +kernel
theorem dX11_ends_6 : decode cX11_ends 6 = .ok (.getfield 224, 3) := by decide +kernel
theorem dX11_ends_9 : decode cX11_ends 9 = .ok (.ifCond .le 4, 3) := by decide +kernel
theorem dX11_ends_12 : decode cX11_ends 12 = .ok (.return_, 1) := by decide +kernel
theorem dX11_ends_13 : decode cX11_ends 13 = .ok (.aload_n 0, 1) := by decide +kernel
theorem dX11_ends_14 : decode cX11_ends 14 = .ok (.getfield 40, 3) := by decide +kernel
theorem dX11_ends_17 : decode cX11_ends 17 = .ok (.aload_n 0, 1) := by decide +kernel
theorem dX11_ends_18 : decode cX11_ends 18 = .ok (.getfield 260, 3) := by decide +kernel
theorem dX11_ends_21 : decode cX11_ends 21 = .ok (.aload_n 0, 1) := by decide +kernel
theorem dX11_ends_22 : decode cX11_ends 22 = .ok (.getfield 30, 3) := by decide +kernel
theorem dX11_ends_25 : decode cX11_ends 25 = .ok (.iload_n 1, 1) := by decide +kernel
theorem dX11_ends_26 : decode cX11_ends 26 = .ok (.laload, 1) := by decide +kernel
theorem dX11_ends_27 : decode cX11_ends 27 = .ok (.lastore, 1) := by decide +kernel
theorem dX11_ends_28 : decode cX11_ends 28 = .ok (.aload_n 0, 1) := by decide +kernel
theorem dX11_ends_29 : decode cX11_ends 29 = .ok (.getfield 43, 3) := by decide +kernel
theorem dX11_ends_32 : decode cX11_ends 32 = .ok (.aload_n 0, 1) := by decide +kernel
theorem dX11_ends_33 : decode cX11_ends 33 = .ok (.getfield 260, 3) := by decide +kernel
theorem dX11_ends_36 : decode cX11_ends 36 = .ok (.iload_n 2, 1) := by decide +kernel
theorem dX11_ends_37 : decode cX11_ends 37 = .ok (.iastore, 1) := by decide +kernel
theorem dX11_ends_38 : decode cX11_ends 38 = .ok (.aload_n 0, 1) := by decide +kernel
theorem dX11_ends_39 : decode cX11_ends 39 = .ok (.dup, 1) := by decide +kernel
theorem dX11_ends_40 : decode cX11_ends 40 = .ok (.getfield 260, 3) := by decide +kernel
theorem dX11_ends_43 : decode cX11_ends 43 = .ok (.iconst 1, 1) := by decide +kernel
theorem dX11_ends_44 : decode cX11_ends 44 = .ok (.iadd, 1) := by decide +kernel
theorem dX11_ends_45 : decode cX11_ends 45 = .ok (.putfield 260, 3) := by decide +kernel
theorem dX11_ends_48 : decode cX11_ends 48 = .ok (.return_, 1) := by decide +kernel
theorem dX11_known_0 : decode cX11_known 0 = .ok (.aload_n 0, 1) := by decide +kernel
theorem dX11_known_1 : decode cX11_known 1 = .ok (.getfield 227, 3) := by decide +kernel
theorem dX11_known_4 : decode cX11_known 4 = .ok (.istore_n 2, 1) := by decide +kernel
theorem dX11_known_5 : decode cX11_known 5 = .ok (.aload_n 0, 1) := by decide +kernel
theorem dX11_known_6 : decode cX11_known 6 = .ok (.iconst 1, 1) := by decide +kernel
theorem dX11_known_7 : decode cX11_known 7 = .ok (.invokevirtual 282, 3) := by decide +kernel
theorem dX11_known_10 : decode cX11_known 10 = .ok (.aload_n 0, 1) := by decide +kernel
theorem dX11_known_11 : decode cX11_known 11 = .ok (.getfield 224, 3) := by decide +kernel
theorem dX11_known_14 : decode cX11_known 14 = .ok (.ifCond .le 5, 3) := by decide +kernel
theorem dX11_known_17 : decode cX11_known 17 = .ok (.iconst (-1), 1) := by decide +kernel
theorem dX11_known_18 : decode cX11_known 18 = .ok (.ireturn, 1) := by decide +kernel
theorem dX11_known_19 : decode cX11_known 19 = .ok (.iconst 0, 1) := by decide +kernel
theorem dX11_known_20 : decode cX11_known 20 = .ok (.istore_n 3, 1) := by decide +kernel
theorem dX11_known_21 : decode cX11_known 21 = .ok (.iload_n 3, 1) := by decide +kernel
theorem dX11_known_22 : decode cX11_known 22 = .ok (.aload_n 0, 1) := by decide +kernel
theorem dX11_known_23 : decode cX11_known 23 = .ok (.getfield 260, 3) := by decide +kernel
theorem dX11_known_26 : decode cX11_known 26 = .ok (.if_icmp .ge 57, 3) := by decide +kernel
theorem dX11_known_29 : decode cX11_known 29 = .ok (.aload_n 0, 1) := by decide +kernel
theorem dX11_known_30 : decode cX11_known 30 = .ok (.getfield 40, 3) := by decide +kernel
theorem dX11_known_33 : decode cX11_known 33 = .ok (.iload_n 3, 1) := by decide +kernel
theorem dX11_known_34 : decode cX11_known 34 = .ok (.laload, 1) := by decide +kernel
theorem dX11_known_35 : decode cX11_known 35 = .ok (.aload_n 0, 1) := by decide +kernel
theorem dX11_known_36 : decode cX11_known 36 = .ok (.getfield 30, 3) := by decide +kernel
theorem dX11_known_39 : decode cX11_known 39 = .ok (.iload_n 2, 1) := by decide +kernel
theorem dX11_known_40 : decode cX11_known 40 = .ok (.laload, 1) := by decide +kernel
theorem dX11_known_41 : decode cX11_known 41 = .ok (.lcmp, 1) := by decide +kernel
theorem dX11_known_42 : decode cX11_known 42 = .ok (.ifCond .ne 35, 3) := by decide +kernel
theorem dX11_known_45 : decode cX11_known 45 = .ok (.aload_n 0, 1) := by decide +kernel
theorem dX11_known_46 : decode cX11_known 46 = .ok (.getfield 43, 3) := by decide +kernel
theorem dX11_known_49 : decode cX11_known 49 = .ok (.iload_n 3, 1) := by decide +kernel
theorem dX11_known_50 : decode cX11_known 50 = .ok (.iaload, 1) := by decide +kernel
theorem dX11_known_51 : decode cX11_known 51 = .ok (.iload_n 1, 1) := by decide +kernel
theorem dX11_known_52 : decode cX11_known 52 = .ok (.if_icmp .lt 25, 3) := by decide +kernel
theorem dX11_known_55 : decode cX11_known 55 = .ok (.aload_n 0, 1) := by decide +kernel
theorem dX11_known_56 : decode cX11_known 56 = .ok (.getfield 43, 3) := by decide +kernel
theorem dX11_known_59 : decode cX11_known 59 = .ok (.iload_n 3, 1) := by decide +kernel
theorem dX11_known_60 : decode cX11_known 60 = .ok (.iaload, 1) := by decide +kernel
theorem dX11_known_61 : decode cX11_known 61 = .ok (.iload_n 1, 1) := by decide +kernel
theorem dX11_known_62 : decode cX11_known 62 = .ok (.bipush 10, 2) := by decide +kernel
theorem dX11_known_64 : decode cX11_known 64 = .ok (.iadd, 1) := by decide +kernel
theorem dX11_known_65 : decode cX11_known 65 = .ok (.if_icmp .ge 12, 3) := by decide +kernel
theorem dX11_known_68 : decode cX11_known 68 = .ok (.aload_n 0, 1) := by decide +kernel
theorem dX11_known_69 : decode cX11_known 69 = .ok (.getfield 43, 3) := by decide +kernel
theorem dX11_known_72 : decode cX11_known 72 = .ok (.iload_n 3, 1) := by decide +kernel
theorem dX11_known_73 : decode cX11_known 73 = .ok (.iaload, 1) := by decide +kernel
theorem dX11_known_74 : decode cX11_known 74 = .ok (.iload_n 1, 1) := by decide +kernel
theorem dX11_known_75 : decode cX11_known 75 = .ok (.isub, 1) := by decide +kernel
theorem dX11_known_76 : decode cX11_known 76 = .ok (.ireturn, 1) := by decide +kernel
theorem dX11_known_77 : decode cX11_known 77 = .ok (.iinc 3 1, 3) := by decide +kernel
theorem dX11_known_80 : decode cX11_known 80 = .ok (.goto (-59), 3) := by decide +kernel
theorem dX11_known_83 : decode cX11_known 83 = .ok (.aload_n 0, 1) := by decide +kernel
theorem dX11_known_84 : decode cX11_known 84 = .ok (.iconst 4, 1) := by decide +kernel
theorem dX11_known_85 : decode cX11_known 85 = .ok (.iload_n 2, 1) := by decide +kernel
theorem dX11_known_86 : decode cX11_known 86 = .ok (.invokevirtual 311, 3) := by decide +kernel
theorem dX11_known_89 : decode cX11_known 89 = .ok (.iconst (-1), 1) := by decide +kernel
theorem dX11_known_90 : decode cX11_known 90 = .ok (.ireturn, 1) := by decide +kernel
theorem dX11_bounded_0 : decode cX11_bounded 0 = .ok (.aload_n 0, 1) := by decide +kernel
theorem dX11_bounded_1 : decode cX11_bounded 1 = .ok (.getfield 224, 3) := by decide +kernel
theorem dX11_bounded_4 : decode cX11_bounded 4 = .ok (.ifCond .gt 11, 3) := by decide +kernel
theorem dX11_bounded_7 : decode cX11_bounded 7 = .ok (.aload_n 0, 1) := by decide +kernel
theorem dX11_bounded_8 : decode cX11_bounded 8 = .ok (.iconst 2, 1) := by decide +kernel
theorem dX11_bounded_9 : decode cX11_bounded 9 = .ok (.invokevirtual 242, 3) := by decide +kernel
theorem dX11_bounded_12 : decode cX11_bounded 12 = .ok (.ifCond .ne 10, 3) := by decide +kernel
theorem dX11_bounded_15 : decode cX11_bounded 15 = .ok (.aload_n 0, 1) := by decide +kernel
theorem dX11_bounded_16 : decode cX11_bounded 16 = .ok (.iconst 1, 1) := by decide +kernel
theorem dX11_bounded_17 : decode cX11_bounded 17 = .ok (.invokevirtual 239, 3) := by decide +kernel
theorem dX11_bounded_20 : decode cX11_bounded 20 = .ok (.iload_n 1, 1) := by decide +kernel
theorem dX11_bounded_21 : decode cX11_bounded 21 = .ok (.ireturn, 1) := by decide +kernel
theorem dX11_bounded_22 : decode cX11_bounded 22 = .ok (.aload_n 0, 1) := by decide +kernel
theorem dX11_bounded_23 : decode cX11_bounded 23 = .ok (.getfield 27, 3) := by decide +kernel
theorem dX11_bounded_26 : decode cX11_bounded 26 = .ok (.aload_n 0, 1) := by decide +kernel
theorem dX11_bounded_27 : decode cX11_bounded 27 = .ok (.getfield 227, 3) := by decide +kernel
theorem dX11_bounded_30 : decode cX11_bounded 30 = .ok (.iaload, 1) := by decide +kernel
theorem dX11_bounded_31 : decode cX11_bounded 31 = .ok (.istore_n 3, 1) := by decide +kernel
theorem dX11_bounded_32 : decode cX11_bounded 32 = .ok (.iload_n 3, 1) := by decide +kernel
theorem dX11_bounded_33 : decode cX11_bounded 33 = .ok (.iload_n 1, 1) := by decide +kernel
theorem dX11_bounded_34 : decode cX11_bounded 34 = .ok (.if_icmp .lt 8, 3) := by decide +kernel
theorem dX11_bounded_37 : decode cX11_bounded 37 = .ok (.iload_n 3, 1) := by decide +kernel
theorem dX11_bounded_38 : decode cX11_bounded 38 = .ok (.iload_n 2, 1) := by decide +kernel
theorem dX11_bounded_39 : decode cX11_bounded 39 = .ok (.if_icmp .le 12, 3) := by decide +kernel
theorem dX11_bounded_42 : decode cX11_bounded 42 = .ok (.aload_n 0, 1) := by decide +kernel
theorem dX11_bounded_43 : decode cX11_bounded 43 = .ok (.iconst 5, 1) := by decide +kernel
theorem dX11_bounded_44 : decode cX11_bounded 44 = .ok (.aload_n 0, 1) := by decide +kernel
theorem dX11_bounded_45 : decode cX11_bounded 45 = .ok (.getfield 227, 3) := by decide +kernel
theorem dX11_bounded_48 : decode cX11_bounded 48 = .ok (.invokevirtual 311, 3) := by decide +kernel
theorem dX11_bounded_51 : decode cX11_bounded 51 = .ok (.aload_n 0, 1) := by decide +kernel
theorem dX11_bounded_52 : decode cX11_bounded 52 = .ok (.invokevirtual 245, 3) := by decide +kernel
theorem dX11_bounded_55 : decode cX11_bounded 55 = .ok (.iload_n 3, 1) := by decide +kernel
theorem dX11_bounded_56 : decode cX11_bounded 56 = .ok (.ireturn, 1) := by decide +kernel
theorem dX11_tellPlot_0 : decode cX11_tellPlot 0 = .ok (.bipush 7, 2) := by decide +kernel
theorem dX11_tellPlot_2 : decode cX11_tellPlot 2 = .ok (.aload_n 0, 1) := by decide +kernel
theorem dX11_tellPlot_3 : decode cX11_tellPlot 3 = .ok (.getfield 257, 3) := by decide +kernel
theorem dX11_tellPlot_6 : decode cX11_tellPlot 6 = .ok (.imul, 1) := by decide +kernel
theorem dX11_tellPlot_7 : decode cX11_tellPlot 7 = .ok (.aload_n 0, 1) := by decide +kernel
theorem dX11_tellPlot_8 : decode cX11_tellPlot 8 = .ok (.getfield 49, 3) := by decide +kernel
theorem dX11_tellPlot_11 : decode cX11_tellPlot 11 = .ok (.aload_n 0, 1) := by decide +kernel
theorem dX11_tellPlot_12 : decode cX11_tellPlot 12 = .ok (.getfield 257, 3) := by decide +kernel
theorem dX11_tellPlot_15 : decode cX11_tellPlot 15 = .ok (.iaload, 1) := by decide +kernel
theorem dX11_tellPlot_16 : decode cX11_tellPlot 16 = .ok (.iadd, 1) := by decide +kernel
theorem dX11_tellPlot_17 : decode cX11_tellPlot 17 = .ok (.istore_n 1, 1) := by decide +kernel
theorem dX11_tellPlot_18 : decode cX11_tellPlot 18 = .ok (.aload_n 0, 1) := by decide +kernel
theorem dX11_tellPlot_19 : decode cX11_tellPlot 19 = .ok (.invokevirtual 289, 3) := by decide +kernel
theorem dX11_tellPlot_22 : decode cX11_tellPlot 22 = .ok (.istore_n 2, 1) := by decide +kernel
theorem dX11_tellPlot_23 : decode cX11_tellPlot 23 = .ok (.aload_n 0, 1) := by decide +kernel
theorem dX11_tellPlot_24 : decode cX11_tellPlot 24 = .ok (.getfield 52, 3) := by decide +kernel
theorem dX11_tellPlot_27 : decode cX11_tellPlot 27 = .ok (.iload_n 1, 1) := by decide +kernel
theorem dX11_tellPlot_28 : decode cX11_tellPlot 28 = .ok (.aload_n 0, 1) := by decide +kernel
theorem dX11_tellPlot_29 : decode cX11_tellPlot 29 = .ok (.iconst 0, 1) := by decide +kernel
theorem dX11_tellPlot_30 : decode cX11_tellPlot 30 = .ok (.bipush 9, 2) := by decide +kernel
theorem dX11_tellPlot_32 : decode cX11_tellPlot 32 = .ok (.invokevirtual 278, 3) := by decide +kernel
theorem dX11_tellPlot_35 : decode cX11_tellPlot 35 = .ok (.iastore, 1) := by decide +kernel
theorem dX11_tellPlot_36 : decode cX11_tellPlot 36 = .ok (.aload_n 0, 1) := by decide +kernel
theorem dX11_tellPlot_37 : decode cX11_tellPlot 37 = .ok (.getfield 55, 3) := by decide +kernel
theorem dX11_tellPlot_40 : decode cX11_tellPlot 40 = .ok (.iload_n 1, 1) := by decide +kernel
theorem dX11_tellPlot_41 : decode cX11_tellPlot 41 = .ok (.aload_n 0, 1) := by decide +kernel
theorem dX11_tellPlot_42 : decode cX11_tellPlot 42 = .ok (.iconst 0, 1) := by decide +kernel
theorem dX11_tellPlot_43 : decode cX11_tellPlot 43 = .ok (.bipush 9, 2) := by decide +kernel
theorem dX11_tellPlot_45 : decode cX11_tellPlot 45 = .ok (.invokevirtual 278, 3) := by decide +kernel
theorem dX11_tellPlot_48 : decode cX11_tellPlot 48 = .ok (.iastore, 1) := by decide +kernel
theorem dX11_tellPlot_49 : decode cX11_tellPlot 49 = .ok (.aload_n 0, 1) := by decide +kernel
theorem dX11_tellPlot_50 : decode cX11_tellPlot 50 = .ok (.getfield 58, 3) := by decide +kernel
theorem dX11_tellPlot_53 : decode cX11_tellPlot 53 = .ok (.iload_n 1, 1) := by decide +kernel
theorem dX11_tellPlot_54 : decode cX11_tellPlot 54 = .ok (.aload_n 0, 1) := by decide +kernel
theorem dX11_tellPlot_55 : decode cX11_tellPlot 55 = .ok (.iconst 0, 1) := by decide +kernel
theorem dX11_tellPlot_56 : decode cX11_tellPlot 56 = .ok (.invokevirtual 314, 3) := by decide +kernel
theorem dX11_tellPlot_59 : decode cX11_tellPlot 59 = .ok (.iastore, 1) := by decide +kernel
theorem dX11_tellPlot_60 : decode cX11_tellPlot 60 = .ok (.aload_n 0, 1) := by decide +kernel
theorem dX11_tellPlot_61 : decode cX11_tellPlot 61 = .ok (.iload_n 2, 1) := by decide +kernel
theorem dX11_tellPlot_62 : decode cX11_tellPlot 62 = .ok (.bipush 10, 2) := by decide +kernel
theorem dX11_tellPlot_64 : decode cX11_tellPlot 64 = .ok (.aload_n 0, 1) := by decide +kernel
theorem dX11_tellPlot_65 : decode cX11_tellPlot 65 = .ok (.getfield 49, 3) := by decide +kernel
theorem dX11_tellPlot_68 : decode cX11_tellPlot 68 = .ok (.aload_n 0, 1) := by decide +kernel
theorem dX11_tellPlot_69 : decode cX11_tellPlot 69 = .ok (.getfield 257, 3) := by decide +kernel
theorem dX11_tellPlot_72 : decode cX11_tellPlot 72 = .ok (.iaload, 1) := by decide +kernel
theorem dX11_tellPlot_73 : decode cX11_tellPlot 73 = .ok (.iadd, 1) := by decide +kernel
theorem dX11_tellPlot_74 : decode cX11_tellPlot 74 = .ok (.invokevirtual 293, 3) := by decide +kernel
theorem dX11_tellPlot_77 : decode cX11_tellPlot 77 = .ok (.aload_n 0, 1) := by decide +kernel
theorem dX11_tellPlot_78 : decode cX11_tellPlot 78 = .ok (.getfield 224, 3) := by decide +kernel
theorem dX11_tellPlot_81 : decode cX11_tellPlot 81 = .ok (.ifCond .ne 16, 3) := by decide +kernel
theorem dX11_tellPlot_84 : decode cX11_tellPlot 84 = .ok (.aload_n 0, 1) := by decide +kernel
theorem dX11_tellPlot_85 : decode cX11_tellPlot 85 = .ok (.getfield 49, 3) := by decide +kernel
theorem dX11_tellPlot_88 : decode cX11_tellPlot 88 = .ok (.aload_n 0, 1) := by decide +kernel
theorem dX11_tellPlot_89 : decode cX11_tellPlot 89 = .ok (.getfield 257, 3) := by decide +kernel
theorem dX11_tellPlot_92 : decode cX11_tellPlot 92 = .ok (.dup2, 1) := by decide +kernel
theorem dX11_tellPlot_93 : decode cX11_tellPlot 93 = .ok (.iaload, 1) := by decide +kernel
theorem dX11_tellPlot_94 : decode cX11_tellPlot 94 = .ok (.iconst 1, 1) := by decide +kernel
theorem dX11_tellPlot_95 : decode cX11_tellPlot 95 = .ok (.iadd, 1) := by decide +kernel
theorem dX11_tellPlot_96 : decode cX11_tellPlot 96 = .ok (.iastore, 1) := by decide +kernel
theorem dX11_tellPlot_97 : decode cX11_tellPlot 97 = .ok (.return_, 1) := by decide +kernel
theorem dX11_tellWitness_0 : decode cX11_tellWitness 0 = .ok (.bipush 7, 2) := by decide +kernel
theorem dX11_tellWitness_2 : decode cX11_tellWitness 2 = .ok (.aload_n 0, 1) := by decide +kernel
theorem dX11_tellWitness_3 : decode cX11_tellWitness 3 = .ok (.getfield 257, 3) := by decide +kernel
theorem dX11_tellWitness_6 : decode cX11_tellWitness 6 = .ok (.imul, 1) := by decide +kernel
theorem dX11_tellWitness_7 : decode cX11_tellWitness 7 = .ok (.aload_n 0, 1) := by decide +kernel
theorem dX11_tellWitness_8 : decode cX11_tellWitness 8 = .ok (.getfield 61, 3) := by decide +kernel
theorem dX11_tellWitness_11 : decode cX11_tellWitness 11 = .ok (.aload_n 0, 1) := by decide +kernel
theorem dX11_tellWitness_12 : decode cX11_tellWitness 12 = .ok (.getfield 257, 3) := by decide +kernel
theorem dX11_tellWitness_15 : decode cX11_tellWitness 15 = .ok (.iaload, 1) := by decide +kernel
theorem dX11_tellWitness_16 : decode cX11_tellWitness 16 = .ok (.iadd, 1) := by decide +kernel
theorem dX11_tellWitness_17 : decode cX11_tellWitness 17 = .ok (.istore_n 1, 1) := by decide +kernel
theorem dX11_tellWitness_18 : decode cX11_tellWitness 18 = .ok (.aload_n 0, 1) := by decide +kernel
theorem dX11_tellWitness_19 : decode cX11_tellWitness 19 = .ok (.invokevirtual 289, 3) := by decide +kernel
theorem dX11_tellWitness_22 : decode cX11_tellWitness 22 = .ok (.istore_n 2, 1) := by decide +kernel
theorem dX11_tellWitness_23 : decode cX11_tellWitness 23 = .ok (.aload_n 0, 1) := by decide +kernel
theorem dX11_tellWitness_24 : decode cX11_tellWitness 24 = .ok (.getfield 64, 3) := by decide +kernel
theorem dX11_tellWitness_27 : decode cX11_tellWitness 27 = .ok (.iload_n 1, 1) := by decide +kernel
theorem dX11_tellWitness_28 : decode cX11_tellWitness 28 = .ok (.aload_n 0, 1) := by decide +kernel
theorem dX11_tellWitness_29 : decode cX11_tellWitness 29 = .ok (.iconst 0, 1) := by decide +kernel
theorem dX11_tellWitness_30 : decode cX11_tellWitness 30 = .ok (.bipush 99, 2) := by decide +kernel
theorem dX11_tellWitness_32 : decode cX11_tellWitness 32 = .ok (.invokevirtual 278, 3) := by decide +kernel
theorem dX11_tellWitness_35 : decode cX11_tellWitness 35 = .ok (.iastore, 1) := by decide +kernel
theorem dX11_tellWitness_36 : decode cX11_tellWitness 36 = .ok (.aload_n 0, 1) := by decide +kernel
theorem dX11_tellWitness_37 : decode cX11_tellWitness 37 = .ok (.getfield 67, 3) := by decide +kernel
theorem dX11_tellWitness_40 : decode cX11_tellWitness 40 = .ok (.iload_n 1, 1) := by decide +kernel
theorem dX11_tellWitness_41 : decode cX11_tellWitness 41 = .ok (.aload_n 0, 1) := by decide +kernel
theorem dX11_tellWitness_42 : decode cX11_tellWitness 42 = .ok (.iconst 0, 1) := by decide +kernel
theorem dX11_tellWitness_43 : decode cX11_tellWitness 43 = .ok (.bipush 99, 2) := by decide +kernel
theorem dX11_tellWitness_45 : decode cX11_tellWitness 45 = .ok (.invokevirtual 278, 3) := by decide +kernel
theorem dX11_tellWitness_48 : decode cX11_tellWitness 48 = .ok (.iastore, 1) := by decide +kernel
theorem dX11_tellWitness_49 : decode cX11_tellWitness 49 = .ok (.aload_n 0, 1) := by decide +kernel
theorem dX11_tellWitness_50 : decode cX11_tellWitness 50 = .ok (.iload_n 2, 1) := by decide +kernel
theorem dX11_tellWitness_51 : decode cX11_tellWitness 51 = .ok (.bipush 20, 2) := by decide +kernel
theorem dX11_tellWitness_53 : decode cX11_tellWitness 53 = .ok (.aload_n 0, 1) := by decide +kernel
theorem dX11_tellWitness_54 : decode cX11_tellWitness 54 = .ok (.getfield 61, 3) := by decide +kernel
theorem dX11_tellWitness_57 : decode cX11_tellWitness 57 = .ok (.aload_n 0, 1) := by decide +kernel
theorem dX11_tellWitness_58 : decode cX11_tellWitness 58 = .ok (.getfield 257, 3) := by decide +kernel
theorem dX11_tellWitness_61 : decode cX11_tellWitness 61 = .ok (.iaload, 1) := by decide +kernel
theorem dX11_tellWitness_62 : decode cX11_tellWitness 62 = .ok (.iadd, 1) := by decide +kernel
theorem dX11_tellWitness_63 : decode cX11_tellWitness 63 = .ok (.invokevirtual 293, 3) := by decide +kernel
theorem dX11_tellWitness_66 : decode cX11_tellWitness 66 = .ok (.aload_n 0, 1) := by decide +kernel
theorem dX11_tellWitness_67 : decode cX11_tellWitness 67 = .ok (.getfield 224, 3) := by decide +kernel
theorem dX11_tellWitness_70 : decode cX11_tellWitness 70 = .ok (.ifCond .ne 16, 3) := by decide +kernel
theorem dX11_tellWitness_73 : decode cX11_tellWitness 73 = .ok (.aload_n 0, 1) := by decide +kernel
theorem dX11_tellWitness_74 : decode cX11_tellWitness 74 = .ok (.getfield 61, 3) := by decide +kernel
theorem dX11_tellWitness_77 : decode cX11_tellWitness 77 = .ok (.aload_n 0, 1) := by decide +kernel
theorem dX11_tellWitness_78 : decode cX11_tellWitness 78 = .ok (.getfield 257, 3) := by decide +kernel
theorem dX11_tellWitness_81 : decode cX11_tellWitness 81 = .ok (.dup2, 1) := by decide +kernel
theorem dX11_tellWitness_82 : decode cX11_tellWitness 82 = .ok (.iaload, 1) := by decide +kernel
theorem dX11_tellWitness_83 : decode cX11_tellWitness 83 = .ok (.iconst 1, 1) := by decide +kernel
theorem dX11_tellWitness_84 : decode cX11_tellWitness 84 = .ok (.iadd, 1) := by decide +kernel
theorem dX11_tellWitness_85 : decode cX11_tellWitness 85 = .ok (.iastore, 1) := by decide +kernel
theorem dX11_tellWitness_86 : decode cX11_tellWitness 86 = .ok (.return_, 1) := by decide +kernel
theorem dX11_tellGiving_0 : decode cX11_tellGiving 0 = .ok (.bipush 12, 2) := by decide +kernel
theorem dX11_tellGiving_2 : decode cX11_tellGiving 2 = .ok (.aload_n 0, 1) := by decide +kernel
theorem dX11_tellGiving_3 : decode cX11_tellGiving 3 = .ok (.getfield 257, 3) := by decide +kernel
theorem dX11_tellGiving_6 : decode cX11_tellGiving 6 = .ok (.imul, 1) := by decide +kernel
theorem dX11_tellGiving_7 : decode cX11_tellGiving 7 = .ok (.aload_n 0, 1) := by decide +kernel
theorem dX11_tellGiving_8 : decode cX11_tellGiving 8 = .ok (.getfield 70, 3) := by decide +kernel
theorem dX11_tellGiving_11 : decode cX11_tellGiving 11 = .ok (.aload_n 0, 1) := by decide +kernel
theorem dX11_tellGiving_12 : decode cX11_tellGiving 12 = .ok (.getfield 257, 3) := by decide +kernel
theorem dX11_tellGiving_15 : decode cX11_tellGiving 15 = .ok (.iaload, 1) := by decide +kernel
theorem dX11_tellGiving_16 : decode cX11_tellGiving 16 = .ok (.iadd, 1) := by decide +kernel
theorem dX11_tellGiving_17 : decode cX11_tellGiving 17 = .ok (.istore_n 1, 1) := by decide +kernel
theorem dX11_tellGiving_18 : decode cX11_tellGiving 18 = .ok (.aload_n 0, 1) := by decide +kernel
theorem dX11_tellGiving_19 : decode cX11_tellGiving 19 = .ok (.getfield 73, 3) := by decide +kernel
theorem dX11_tellGiving_22 : decode cX11_tellGiving 22 = .ok (.iload_n 1, 1) := by decide +kernel
theorem dX11_tellGiving_23 : decode cX11_tellGiving 23 = .ok (.aload_n 0, 1) := by decide +kernel
theorem dX11_tellGiving_24 : decode cX11_tellGiving 24 = .ok (.bipush 10, 2) := by decide +kernel
theorem dX11_tellGiving_26 : decode cX11_tellGiving 26 = .ok (.invokevirtual 314, 3) := by decide +kernel
theorem dX11_tellGiving_29 : decode cX11_tellGiving 29 = .ok (.iastore, 1) := by decide +kernel
theorem dX11_tellGiving_30 : decode cX11_tellGiving 30 = .ok (.aload_n 0, 1) := by decide +kernel
theorem dX11_tellGiving_31 : decode cX11_tellGiving 31 = .ok (.getfield 76, 3) := by decide +kernel
theorem dX11_tellGiving_34 : decode cX11_tellGiving 34 = .ok (.iload_n 1, 1) := by decide +kernel
theorem dX11_tellGiving_35 : decode cX11_tellGiving 35 = .ok (.aload_n 0, 1) := by decide +kernel
theorem dX11_tellGiving_36 : decode cX11_tellGiving 36 = .ok (.iconst 0, 1) := by decide +kernel
theorem dX11_tellGiving_37 : decode cX11_tellGiving 37 = .ok (.invokevirtual 314, 3) := by decide +kernel
theorem dX11_tellGiving_40 : decode cX11_tellGiving 40 = .ok (.iastore, 1) := by decide +kernel
theorem dX11_tellGiving_41 : decode cX11_tellGiving 41 = .ok (.aload_n 0, 1) := by decide +kernel
theorem dX11_tellGiving_42 : decode cX11_tellGiving 42 = .ok (.getfield 227, 3) := by decide +kernel
theorem dX11_tellGiving_45 : decode cX11_tellGiving 45 = .ok (.istore_n 2, 1) := by decide +kernel
theorem dX11_tellGiving_46 : decode cX11_tellGiving 46 = .ok (.aload_n 0, 1) := by decide +kernel
theorem dX11_tellGiving_47 : decode cX11_tellGiving 47 = .ok (.getfield 79, 3) := by decide +kernel
theorem dX11_tellGiving_50 : decode cX11_tellGiving 50 = .ok (.iload_n 1, 1) := by decide +kernel
theorem dX11_tellGiving_51 : decode cX11_tellGiving 51 = .ok (.aload_n 0, 1) := by decide +kernel
theorem dX11_tellGiving_52 : decode cX11_tellGiving 52 = .ok (.iconst 0, 1) := by decide +kernel
theorem dX11_tellGiving_53 : decode cX11_tellGiving 53 = .ok (.invokevirtual 314, 3) := by decide +kernel
theorem dX11_tellGiving_56 : decode cX11_tellGiving 56 = .ok (.iastore, 1) := by decide +kernel
theorem dX11_tellGiving_57 : decode cX11_tellGiving 57 = .ok (.aload_n 0, 1) := by decide +kernel
theorem dX11_tellGiving_58 : decode cX11_tellGiving 58 = .ok (.getfield 224, 3) := by decide +kernel
theorem dX11_tellGiving_61 : decode cX11_tellGiving 61 = .ok (.ifCond .ne 33, 3) := by decide +kernel
theorem dX11_tellGiving_64 : decode cX11_tellGiving 64 = .ok (.aload_n 0, 1) := by decide +kernel
theorem dX11_tellGiving_65 : decode cX11_tellGiving 65 = .ok (.getfield 79, 3) := by decide +kernel
theorem dX11_tellGiving_68 : decode cX11_tellGiving 68 = .ok (.iload_n 1, 1) := by decide +kernel
theorem dX11_tellGiving_69 : decode cX11_tellGiving 69 = .ok (.iaload, 1) := by decide +kernel
theorem dX11_tellGiving_70 : decode cX11_tellGiving 70 = .ok (.ifCond .lt 24, 3) := by decide +kernel
theorem dX11_tellGiving_73 : decode cX11_tellGiving 73 = .ok (.aload_n 0, 1) := by decide +kernel
theorem dX11_tellGiving_74 : decode cX11_tellGiving 74 = .ok (.getfield 79, 3) := by decide +kernel
theorem dX11_tellGiving_77 : decode cX11_tellGiving 77 = .ok (.iload_n 1, 1) := by decide +kernel
theorem dX11_tellGiving_78 : decode cX11_tellGiving 78 = .ok (.iaload, 1) := by decide +kernel
theorem dX11_tellGiving_79 : decode cX11_tellGiving 79 = .ok (.aload_n 0, 1) := by decide +kernel
theorem dX11_tellGiving_80 : decode cX11_tellGiving 80 = .ok (.getfield 76, 3) := by decide +kernel
theorem dX11_tellGiving_83 : decode cX11_tellGiving 83 = .ok (.iload_n 1, 1) := by decide +kernel
theorem dX11_tellGiving_84 : decode cX11_tellGiving 84 = .ok (.iaload, 1) := by decide +kernel
theorem dX11_tellGiving_85 : decode cX11_tellGiving 85 = .ok (.if_icmp .ne 9, 3) := by decide +kernel
theorem dX11_tellGiving_88 : decode cX11_tellGiving 88 = .ok (.aload_n 0, 1) := by decide +kernel
theorem dX11_tellGiving_89 : decode cX11_tellGiving 89 = .ok (.iconst 3, 1) := by decide +kernel
theorem dX11_tellGiving_90 : decode cX11_tellGiving 90 = .ok (.iload_n 2, 1) := by decide +kernel
theorem dX11_tellGiving_91 : decode cX11_tellGiving 91 = .ok (.invokevirtual 311, 3) := by decide +kernel
theorem dX11_tellGiving_94 : decode cX11_tellGiving 94 = .ok (.aload_n 0, 1) := by decide +kernel
theorem dX11_tellGiving_95 : decode cX11_tellGiving 95 = .ok (.getfield 82, 3) := by decide +kernel
theorem dX11_tellGiving_98 : decode cX11_tellGiving 98 = .ok (.iload_n 1, 1) := by decide +kernel
theorem dX11_tellGiving_99 : decode cX11_tellGiving 99 = .ok (.aload_n 0, 1) := by decide +kernel
theorem dX11_tellGiving_100 : decode cX11_tellGiving 100 = .ok (.iconst 0, 1) := by decide +kernel
theorem dX11_tellGiving_101 : decode cX11_tellGiving 101 = .ok (.bipush 99, 2) := by decide +kernel
theorem dX11_tellGiving_103 : decode cX11_tellGiving 103 = .ok (.invokevirtual 278, 3) := by decide +kernel
theorem dX11_tellGiving_106 : decode cX11_tellGiving 106 = .ok (.iastore, 1) := by decide +kernel
theorem dX11_tellGiving_107 : decode cX11_tellGiving 107 = .ok (.aload_n 0, 1) := by decide +kernel
theorem dX11_tellGiving_108 : decode cX11_tellGiving 108 = .ok (.getfield 85, 3) := by decide +kernel
theorem dX11_tellGiving_111 : decode cX11_tellGiving 111 = .ok (.iload_n 1, 1) := by decide +kernel
theorem dX11_tellGiving_112 : decode cX11_tellGiving 112 = .ok (.iconst 0, 1) := by decide +kernel
theorem dX11_tellGiving_113 : decode cX11_tellGiving 113 = .ok (.iastore, 1) := by decide +kernel
theorem dX11_tellGiving_114 : decode cX11_tellGiving 114 = .ok (.aload_n 0, 1) := by decide +kernel
theorem dX11_tellGiving_115 : decode cX11_tellGiving 115 = .ok (.getfield 224, 3) := by decide +kernel
theorem dX11_tellGiving_118 : decode cX11_tellGiving 118 = .ok (.ifCond .ne 71, 3) := by decide +kernel
theorem dX11_tellGiving_121 : decode cX11_tellGiving 121 = .ok (.aload_n 0, 1) := by decide +kernel
theorem dX11_tellGiving_122 : decode cX11_tellGiving 122 = .ok (.iconst 1, 1) := by decide +kernel
theorem dX11_tellGiving_123 : decode cX11_tellGiving 123 = .ok (.invokevirtual 242, 3) := by decide +kernel
theorem dX11_tellGiving_126 : decode cX11_tellGiving 126 = .ok (.ifCond .eq 63, 3) := by decide +kernel
theorem dX11_tellGiving_129 : decode cX11_tellGiving 129 = .ok (.aload_n 0, 1) := by decide +kernel
theorem dX11_tellGiving_130 : decode cX11_tellGiving 130 = .ok (.getfield 227, 3) := by decide +kernel
theorem dX11_tellGiving_133 : decode cX11_tellGiving 133 = .ok (.istore_n 3, 1) := by decide +kernel
theorem dX11_tellGiving_134 : decode cX11_tellGiving 134 = .ok (.aload_n 0, 1) := by decide +kernel
theorem dX11_tellGiving_135 : decode cX11_tellGiving 135 = .ok (.bipush 20, 2) := by decide +kernel
theorem dX11_tellGiving_137 : decode cX11_tellGiving 137 = .ok (.invokevirtual 314, 3) := by decide +kernel
theorem dX11_tellGiving_140 : decode cX11_tellGiving 140 = .ok (.istore 4, 2) := by decide +kernel
theorem dX11_tellGiving_142 : decode cX11_tellGiving 142 = .ok (.iload 4, 2) := by decide +kernel
theorem dX11_tellGiving_144 : decode cX11_tellGiving 144 = .ok (.ifCond .lt 24, 3) := by decide +kernel
theorem dX11_tellGiving_147 : decode cX11_tellGiving 147 = .ok (.aload_n 0, 1) := by decide +kernel
theorem dX11_tellGiving_148 : decode cX11_tellGiving 148 = .ok (.getfield 85, 3) := by decide +kernel
theorem dX11_tellGiving_151 : decode cX11_tellGiving 151 = .ok (.iload_n 1, 1) := by decide +kernel
theorem dX11_tellGiving_152 : decode cX11_tellGiving 152 = .ok (.iaload, 1) := by decide +kernel
theorem dX11_tellGiving_153 : decode cX11_tellGiving 153 = .ok (.iload 4, 2) := by decide +kernel
theorem dX11_tellGiving_155 : decode cX11_tellGiving 155 = .ok (.ishr, 1) := by decide +kernel
theorem dX11_tellGiving_156 : decode cX11_tellGiving 156 = .ok (.iconst 1, 1) := by decide +kernel
theorem dX11_tellGiving_157 : decode cX11_tellGiving 157 = .ok (.iand, 1) := by decide +kernel
theorem dX11_tellGiving_158 : decode cX11_tellGiving 158 = .ok (.iconst 1, 1) := by decide +kernel
theorem dX11_tellGiving_159 : decode cX11_tellGiving 159 = .ok (.if_icmp .ne 9, 3) := by decide +kernel
theorem dX11_tellGiving_162 : decode cX11_tellGiving 162 = .ok (.aload_n 0, 1) := by decide +kernel
theorem dX11_tellGiving_163 : decode cX11_tellGiving 163 = .ok (.iconst 3, 1) := by decide +kernel
theorem dX11_tellGiving_164 : decode cX11_tellGiving 164 = .ok (.iload_n 3, 1) := by decide +kernel
theorem dX11_tellGiving_165 : decode cX11_tellGiving 165 = .ok (.invokevirtual 311, 3) := by decide +kernel
theorem dX11_tellGiving_168 : decode cX11_tellGiving 168 = .ok (.iload 4, 2) := by decide +kernel
theorem dX11_tellGiving_170 : decode cX11_tellGiving 170 = .ok (.ifCond .lt 16, 3) := by decide +kernel
theorem dX11_tellGiving_173 : decode cX11_tellGiving 173 = .ok (.aload_n 0, 1) := by decide +kernel
theorem dX11_tellGiving_174 : decode cX11_tellGiving 174 = .ok (.getfield 85, 3) := by decide +kernel
theorem dX11_tellGiving_177 : decode cX11_tellGiving 177 = .ok (.iload_n 1, 1) := by decide +kernel
theorem dX11_tellGiving_178 : decode cX11_tellGiving 178 = .ok (.dup2, 1) := by decide +kernel
theorem dX11_tellGiving_179 : decode cX11_tellGiving 179 = .ok (.iaload, 1) := by decide +kernel
theorem dX11_tellGiving_180 : decode cX11_tellGiving 180 = .ok (.iconst 1, 1) := by decide +kernel
theorem dX11_tellGiving_181 : decode cX11_tellGiving 181 = .ok (.iload 4, 2) := by decide +kernel
theorem dX11_tellGiving_183 : decode cX11_tellGiving 183 = .ok (.ishl, 1) := by decide +kernel
theorem dX11_tellGiving_184 : decode cX11_tellGiving 184 = .ok (.ior, 1) := by decide +kernel
theorem dX11_tellGiving_185 : decode cX11_tellGiving 185 = .ok (.iastore, 1) := by decide +kernel
theorem dX11_tellGiving_186 : decode cX11_tellGiving 186 = .ok (.goto (-72), 3) := by decide +kernel
theorem dX11_tellGiving_189 : decode cX11_tellGiving 189 = .ok (.aload_n 0, 1) := by decide +kernel
theorem dX11_tellGiving_190 : decode cX11_tellGiving 190 = .ok (.iconst 4, 1) := by decide +kernel
theorem dX11_tellGiving_191 : decode cX11_tellGiving 191 = .ok (.invokevirtual 282, 3) := by decide +kernel
theorem dX11_tellGiving_194 : decode cX11_tellGiving 194 = .ok (.aload_n 0, 1) := by decide +kernel
theorem dX11_tellGiving_195 : decode cX11_tellGiving 195 = .ok (.getfield 224, 3) := by decide +kernel
theorem dX11_tellGiving_198 : decode cX11_tellGiving 198 = .ok (.ifCond .ne 16, 3) := by decide +kernel
theorem dX11_tellGiving_201 : decode cX11_tellGiving 201 = .ok (.aload_n 0, 1) := by decide +kernel
theorem dX11_tellGiving_202 : decode cX11_tellGiving 202 = .ok (.getfield 70, 3) := by decide +kernel
theorem dX11_tellGiving_205 : decode cX11_tellGiving 205 = .ok (.aload_n 0, 1) := by decide +kernel
theorem dX11_tellGiving_206 : decode cX11_tellGiving 206 = .ok (.getfield 257, 3) := by decide +kernel
theorem dX11_tellGiving_209 : decode cX11_tellGiving 209 = .ok (.dup2, 1) := by decide +kernel
theorem dX11_tellGiving_210 : decode cX11_tellGiving 210 = .ok (.iaload, 1) := by decide +kernel
theorem dX11_tellGiving_211 : decode cX11_tellGiving 211 = .ok (.iconst 1, 1) := by decide +kernel
theorem dX11_tellGiving_212 : decode cX11_tellGiving 212 = .ok (.iadd, 1) := by decide +kernel
theorem dX11_tellGiving_213 : decode cX11_tellGiving 213 = .ok (.iastore, 1) := by decide +kernel
theorem dX11_tellGiving_214 : decode cX11_tellGiving 214 = .ok (.return_, 1) := by decide +kernel
theorem dX11_tellLaw_0 : decode cX11_tellLaw 0 = .ok (.aload_n 0, 1) := by decide +kernel
theorem dX11_tellLaw_1 : decode cX11_tellLaw 1 = .ok (.iconst 5, 1) := by decide +kernel
theorem dX11_tellLaw_2 : decode cX11_tellLaw 2 = .ok (.invokevirtual 282, 3) := by decide +kernel
theorem dX11_tellLaw_5 : decode cX11_tellLaw 5 = .ok (.aload_n 0, 1) := by decide +kernel
theorem dX11_tellLaw_6 : decode cX11_tellLaw 6 = .ok (.getfield 263, 3) := by decide +kernel
theorem dX11_tellLaw_9 : decode cX11_tellLaw 9 = .ok (.istore_n 2, 1) := by decide +kernel
theorem dX11_tellLaw_10 : decode cX11_tellLaw 10 = .ok (.iconst 0, 1) := by decide +kernel
theorem dX11_tellLaw_11 : decode cX11_tellLaw 11 = .ok (.istore_n 3, 1) := by decide +kernel
theorem dX11_tellLaw_12 : decode cX11_tellLaw 12 = .ok (.aload_n 0, 1) := by decide +kernel
theorem dX11_tellLaw_13 : decode cX11_tellLaw 13 = .ok (.getfield 224, 3) := by decide +kernel
theorem dX11_tellLaw_16 : decode cX11_tellLaw 16 = .ok (.ifCond .ne 113, 3) := by decide +kernel
theorem dX11_tellLaw_19 : decode cX11_tellLaw 19 = .ok (.aload_n 0, 1) := by decide +kernel
theorem dX11_tellLaw_20 : decode cX11_tellLaw 20 = .ok (.bipush 30, 2) := by decide +kernel
theorem dX11_tellLaw_22 : decode cX11_tellLaw 22 = .ok (.invokevirtual 242, 3) := by decide +kernel
theorem dX11_tellLaw_25 : decode cX11_tellLaw 25 = .ok (.ifCond .eq 104, 3) := by decide +kernel
theorem dX11_tellLaw_28 : decode cX11_tellLaw 28 = .ok (.iload_n 3, 1) := by decide +kernel
theorem dX11_tellLaw_29 : decode cX11_tellLaw 29 = .ok (.iconst 4, 1) := by decide +kernel
theorem dX11_tellLaw_30 : decode cX11_tellLaw 30 = .ok (.if_icmp .ne 8, 3) := by decide +kernel
theorem dX11_tellLaw_33 : decode cX11_tellLaw 33 = .ok (.aload_n 0, 1) := by decide +kernel
theorem dX11_tellLaw_34 : decode cX11_tellLaw 34 = .ok (.iconst 2, 1) := by decide +kernel
theorem dX11_tellLaw_35 : decode cX11_tellLaw 35 = .ok (.invokevirtual 239, 3) := by decide +kernel
theorem dX11_tellLaw_38 : decode cX11_tellLaw 38 = .ok (.aload_n 0, 1) := by decide +kernel
theorem dX11_tellLaw_39 : decode cX11_tellLaw 39 = .ok (.getfield 224, 3) := by decide +kernel
theorem dX11_tellLaw_42 : decode cX11_tellLaw 42 = .ok (.ifCond .le 4, 3) := by decide +kernel
theorem dX11_tellLaw_45 : decode cX11_tellLaw 45 = .ok (.return_, 1) := by decide +kernel
theorem dX11_tellLaw_46 : decode cX11_tellLaw 46 = .ok (.iinc 3 1, 3) := by decide +kernel
theorem dX11_tellLaw_49 : decode cX11_tellLaw 49 = .ok (.aload_n 0, 1) := by decide +kernel
theorem dX11_tellLaw_50 : decode cX11_tellLaw 50 = .ok (.invokevirtual 245, 3) := by decide +kernel
theorem dX11_tellLaw_53 : decode cX11_tellLaw 53 = .ok (.aload_n 0, 1) := by decide +kernel
theorem dX11_tellLaw_54 : decode cX11_tellLaw 54 = .ok (.getfield 100, 3) := by decide +kernel
theorem dX11_tellLaw_57 : decode cX11_tellLaw 57 = .ok (.aload_n 0, 1) := by decide +kernel
theorem dX11_tellLaw_58 : decode cX11_tellLaw 58 = .ok (.getfield 263, 3) := by decide +kernel
theorem dX11_tellLaw_61 : decode cX11_tellLaw 61 = .ok (.iconst 1, 1) := by decide +kernel
theorem dX11_tellLaw_62 : decode cX11_tellLaw 62 = .ok (.bastore, 1) := by decide +kernel
theorem dX11_tellLaw_63 : decode cX11_tellLaw 63 = .ok (.aload_n 0, 1) := by decide +kernel
theorem dX11_tellLaw_64 : decode cX11_tellLaw 64 = .ok (.getfield 104, 3) := by decide +kernel
theorem dX11_tellLaw_67 : decode cX11_tellLaw 67 = .ok (.aload_n 0, 1) := by decide +kernel
theorem dX11_tellLaw_68 : decode cX11_tellLaw 68 = .ok (.getfield 263, 3) := by decide +kernel
theorem dX11_tellLaw_71 : decode cX11_tellLaw 71 = .ok (.aload_n 0, 1) := by decide +kernel
theorem dX11_tellLaw_72 : decode cX11_tellLaw 72 = .ok (.getfield 266, 3) := by decide +kernel
theorem dX11_tellLaw_75 : decode cX11_tellLaw 75 = .ok (.iastore, 1) := by decide +kernel
theorem dX11_tellLaw_76 : decode cX11_tellLaw 76 = .ok (.aload_n 0, 1) := by decide +kernel
theorem dX11_tellLaw_77 : decode cX11_tellLaw 77 = .ok (.invokevirtual 317, 3) := by decide +kernel
theorem dX11_tellLaw_80 : decode cX11_tellLaw 80 = .ok (.aload_n 0, 1) := by decide +kernel
theorem dX11_tellLaw_81 : decode cX11_tellLaw 81 = .ok (.bipush 13, 2) := by decide +kernel
theorem dX11_tellLaw_83 : decode cX11_tellLaw 83 = .ok (.invokevirtual 282, 3) := by decide +kernel
theorem dX11_tellLaw_86 : decode cX11_tellLaw 86 = .ok (.aload_n 0, 1) := by decide +kernel
theorem dX11_tellLaw_87 : decode cX11_tellLaw 87 = .ok (.getfield 107, 3) := by decide +kernel
theorem dX11_tellLaw_90 : decode cX11_tellLaw 90 = .ok (.aload_n 0, 1) := by decide +kernel
theorem dX11_tellLaw_91 : decode cX11_tellLaw 91 = .ok (.getfield 263, 3) := by decide +kernel
theorem dX11_tellLaw_94 : decode cX11_tellLaw 94 = .ok (.aload_n 0, 1) := by decide +kernel
theorem dX11_tellLaw_95 : decode cX11_tellLaw 95 = .ok (.getfield 266, 3) := by decide +kernel
theorem dX11_tellLaw_98 : decode cX11_tellLaw 98 = .ok (.iastore, 1) := by decide +kernel
theorem dX11_tellLaw_99 : decode cX11_tellLaw 99 = .ok (.aload_n 0, 1) := by decide +kernel
theorem dX11_tellLaw_100 : decode cX11_tellLaw 100 = .ok (.getfield 224, 3) := by decide +kernel
theorem dX11_tellLaw_103 : decode cX11_tellLaw 103 = .ok (.ifCond .ne 7, 3) := by decide +kernel
theorem dX11_tellLaw_106 : decode cX11_tellLaw 106 = .ok (.aload_n 0, 1) := by decide +kernel
theorem dX11_tellLaw_107 : decode cX11_tellLaw 107 = .ok (.invokevirtual 317, 3) := by decide +kernel
theorem dX11_tellLaw_110 : decode cX11_tellLaw 110 = .ok (.aload_n 0, 1) := by decide +kernel
theorem dX11_tellLaw_111 : decode cX11_tellLaw 111 = .ok (.bipush 31, 2) := by decide +kernel
theorem dX11_tellLaw_113 : decode cX11_tellLaw 113 = .ok (.invokevirtual 282, 3) := by decide +kernel
theorem dX11_tellLaw_116 : decode cX11_tellLaw 116 = .ok (.aload_n 0, 1) := by decide +kernel
theorem dX11_tellLaw_117 : decode cX11_tellLaw 117 = .ok (.invokevirtual 320, 3) := by decide +kernel
theorem dX11_tellLaw_120 : decode cX11_tellLaw 120 = .ok (.aload_n 0, 1) := by decide +kernel
theorem dX11_tellLaw_121 : decode cX11_tellLaw 121 = .ok (.bipush 32, 2) := by decide +kernel
theorem dX11_tellLaw_123 : decode cX11_tellLaw 123 = .ok (.invokevirtual 282, 3) := by decide +kernel
theorem dX11_tellLaw_126 : decode cX11_tellLaw 126 = .ok (.goto (-114), 3) := by decide +kernel
theorem dX11_tellLaw_129 : decode cX11_tellLaw 129 = .ok (.aload_n 0, 1) := by decide +kernel
theorem dX11_tellLaw_130 : decode cX11_tellLaw 130 = .ok (.getfield 100, 3) := by decide +kernel
theorem dX11_tellLaw_133 : decode cX11_tellLaw 133 = .ok (.aload_n 0, 1) := by decide +kernel
theorem dX11_tellLaw_134 : decode cX11_tellLaw 134 = .ok (.getfield 263, 3) := by decide +kernel
theorem dX11_tellLaw_137 : decode cX11_tellLaw 137 = .ok (.iconst 0, 1) := by decide +kernel
theorem dX11_tellLaw_138 : decode cX11_tellLaw 138 = .ok (.bastore, 1) := by decide +kernel
theorem dX11_tellLaw_139 : decode cX11_tellLaw 139 = .ok (.aload_n 0, 1) := by decide +kernel
theorem dX11_tellLaw_140 : decode cX11_tellLaw 140 = .ok (.invokevirtual 320, 3) := by decide +kernel
theorem dX11_tellLaw_143 : decode cX11_tellLaw 143 = .ok (.aload_n 0, 1) := by decide +kernel
theorem dX11_tellLaw_144 : decode cX11_tellLaw 144 = .ok (.iconst 4, 1) := by decide +kernel
theorem dX11_tellLaw_145 : decode cX11_tellLaw 145 = .ok (.invokevirtual 282, 3) := by decide +kernel
theorem dX11_tellLaw_148 : decode cX11_tellLaw 148 = .ok (.aload_n 0, 1) := by decide +kernel
theorem dX11_tellLaw_149 : decode cX11_tellLaw 149 = .ok (.getfield 224, 3) := by decide +kernel
theorem dX11_tellLaw_152 : decode cX11_tellLaw 152 = .ok (.ifCond .le 4, 3) := by decide +kernel
theorem dX11_tellLaw_155 : decode cX11_tellLaw 155 = .ok (.return_, 1) := by decide +kernel
theorem dX11_tellLaw_156 : decode cX11_tellLaw 156 = .ok (.aload_n 0, 1) := by decide +kernel
theorem dX11_tellLaw_157 : decode cX11_tellLaw 157 = .ok (.getfield 94, 3) := by decide +kernel
theorem dX11_tellLaw_160 : decode cX11_tellLaw 160 = .ok (.iconst 4, 1) := by decide +kernel
theorem dX11_tellLaw_161 : decode cX11_tellLaw 161 = .ok (.aload_n 0, 1) := by decide +kernel
theorem dX11_tellLaw_162 : decode cX11_tellLaw 162 = .ok (.getfield 257, 3) := by decide +kernel
theorem dX11_tellLaw_165 : decode cX11_tellLaw 165 = .ok (.imul, 1) := by decide +kernel
theorem dX11_tellLaw_166 : decode cX11_tellLaw 166 = .ok (.iload_n 1, 1) := by decide +kernel
theorem dX11_tellLaw_167 : decode cX11_tellLaw 167 = .ok (.iadd, 1) := by decide +kernel
theorem dX11_tellLaw_168 : decode cX11_tellLaw 168 = .ok (.iload_n 2, 1) := by decide +kernel
theorem dX11_tellLaw_169 : decode cX11_tellLaw 169 = .ok (.iastore, 1) := by decide +kernel
theorem dX11_tellLaw_170 : decode cX11_tellLaw 170 = .ok (.aload_n 0, 1) := by decide +kernel
theorem dX11_tellLaw_171 : decode cX11_tellLaw 171 = .ok (.getfield 97, 3) := by decide +kernel
theorem dX11_tellLaw_174 : decode cX11_tellLaw 174 = .ok (.iconst 4, 1) := by decide +kernel
theorem dX11_tellLaw_175 : decode cX11_tellLaw 175 = .ok (.aload_n 0, 1) := by decide +kernel
theorem dX11_tellLaw_176 : decode cX11_tellLaw 176 = .ok (.getfield 257, 3) := by decide +kernel
theorem dX11_tellLaw_179 : decode cX11_tellLaw 179 = .ok (.imul, 1) := by decide +kernel
theorem dX11_tellLaw_180 : decode cX11_tellLaw 180 = .ok (.iload_n 1, 1) := by decide +kernel
theorem dX11_tellLaw_181 : decode cX11_tellLaw 181 = .ok (.iadd, 1) := by decide +kernel
theorem dX11_tellLaw_182 : decode cX11_tellLaw 182 = .ok (.aload_n 0, 1) := by decide +kernel
theorem dX11_tellLaw_183 : decode cX11_tellLaw 183 = .ok (.getfield 263, 3) := by decide +kernel
theorem dX11_tellLaw_186 : decode cX11_tellLaw 186 = .ok (.iastore, 1) := by decide +kernel
theorem dX11_tellLaw_187 : decode cX11_tellLaw 187 = .ok (.return_, 1) := by decide +kernel
theorem dX11_term_0 : decode cX11_term 0 = .ok (.aload_n 0, 1) := by decide +kernel
theorem dX11_term_1 : decode cX11_term 1 = .ok (.getfield 110, 3) := by decide +kernel
theorem dX11_term_4 : decode cX11_term 4 = .ok (.aload_n 0, 1) := by decide +kernel
theorem dX11_term_5 : decode cX11_term 5 = .ok (.getfield 263, 3) := by decide +kernel
theorem dX11_term_8 : decode cX11_term 8 = .ok (.aload_n 0, 1) := by decide +kernel
theorem dX11_term_9 : decode cX11_term 9 = .ok (.getfield 266, 3) := by decide +kernel
theorem dX11_term_12 : decode cX11_term 12 = .ok (.iastore, 1) := by decide +kernel
theorem dX11_term_13 : decode cX11_term 13 = .ok (.aload_n 0, 1) := by decide +kernel
theorem dX11_term_14 : decode cX11_term 14 = .ok (.getfield 224, 3) := by decide +kernel
theorem dX11_term_17 : decode cX11_term 17 = .ok (.ifCond .ne 7, 3) := by decide +kernel
theorem dX11_term_20 : decode cX11_term 20 = .ok (.aload_n 0, 1) := by decide +kernel
theorem dX11_term_21 : decode cX11_term 21 = .ok (.invokevirtual 317, 3) := by decide +kernel
theorem dX11_term_24 : decode cX11_term 24 = .ok (.aload_n 0, 1) := by decide +kernel
theorem dX11_term_25 : decode cX11_term 25 = .ok (.getfield 113, 3) := by decide +kernel
theorem dX11_term_28 : decode cX11_term 28 = .ok (.aload_n 0, 1) := by decide +kernel
theorem dX11_term_29 : decode cX11_term 29 = .ok (.getfield 263, 3) := by decide +kernel
theorem dX11_term_32 : decode cX11_term 32 = .ok (.aload_n 0, 1) := by decide +kernel
theorem dX11_term_33 : decode cX11_term 33 = .ok (.getfield 266, 3) := by decide +kernel
theorem dX11_term_36 : decode cX11_term 36 = .ok (.iastore, 1) := by decide +kernel
theorem dX11_term_37 : decode cX11_term 37 = .ok (.aload_n 0, 1) := by decide +kernel
theorem dX11_term_38 : decode cX11_term 38 = .ok (.dup, 1) := by decide +kernel
theorem dX11_term_39 : decode cX11_term 39 = .ok (.getfield 263, 3) := by decide +kernel
theorem dX11_term_42 : decode cX11_term 42 = .ok (.iconst 1, 1) := by decide +kernel
theorem dX11_term_43 : decode cX11_term 43 = .ok (.iadd, 1) := by decide +kernel
theorem dX11_term_44 : decode cX11_term 44 = .ok (.putfield 263, 3) := by decide +kernel
theorem dX11_term_47 : decode cX11_term 47 = .ok (.return_, 1) := by decide +kernel
theorem dX11_emit_0 : decode cX11_emit 0 = .ok (.aload_n 0, 1) := by decide +kernel
theorem dX11_emit_1 : decode cX11_emit 1 = .ok (.getfield 116, 3) := by decide +kernel
theorem dX11_emit_4 : decode cX11_emit 4 = .ok (.aload_n 0, 1) := by decide +kernel
theorem dX11_emit_5 : decode cX11_emit 5 = .ok (.getfield 266, 3) := by decide +kernel
theorem dX11_emit_8 : decode cX11_emit 8 = .ok (.iload_n 1, 1) := by decide +kernel
theorem dX11_emit_9 : decode cX11_emit 9 = .ok (.iastore, 1) := by decide +kernel
theorem dX11_emit_10 : decode cX11_emit 10 = .ok (.aload_n 0, 1) := by decide +kernel
theorem dX11_emit_11 : decode cX11_emit 11 = .ok (.getfield 119, 3) := by decide +kernel
theorem dX11_emit_14 : decode cX11_emit 14 = .ok (.aload_n 0, 1) := by decide +kernel
theorem dX11_emit_15 : decode cX11_emit 15 = .ok (.getfield 266, 3) := by decide +kernel
theorem dX11_emit_18 : decode cX11_emit 18 = .ok (.iload_n 2, 1) := by decide +kernel
theorem dX11_emit_19 : decode cX11_emit 19 = .ok (.iastore, 1) := by decide +kernel
theorem dX11_emit_20 : decode cX11_emit 20 = .ok (.aload_n 0, 1) := by decide +kernel
theorem dX11_emit_21 : decode cX11_emit 21 = .ok (.dup, 1) := by decide +kernel
theorem dX11_emit_22 : decode cX11_emit 22 = .ok (.getfield 266, 3) := by decide +kernel
theorem dX11_emit_25 : decode cX11_emit 25 = .ok (.iconst 1, 1) := by decide +kernel
theorem dX11_emit_26 : decode cX11_emit 26 = .ok (.iadd, 1) := by decide +kernel
theorem dX11_emit_27 : decode cX11_emit 27 = .ok (.putfield 266, 3) := by decide +kernel
theorem dX11_emit_30 : decode cX11_emit 30 = .ok (.return_, 1) := by decide +kernel
theorem dX11_comesOut_0 : decode cX11_comesOut 0 = .ok (.aload_n 0, 1) := by decide +kernel
theorem dX11_comesOut_1 : decode cX11_comesOut 1 = .ok (.getfield 323, 3) := by decide +kernel
theorem dX11_comesOut_4 : decode cX11_comesOut 4 = .ok (.ifCond .le 87, 3) := by decide +kernel
theorem dX11_comesOut_7 : decode cX11_comesOut 7 = .ok (.aload_n 0, 1) := by decide +kernel
theorem dX11_comesOut_8 : decode cX11_comesOut 8 = .ok (.getfield 122, 3) := by decide +kernel
theorem dX11_comesOut_11 : decode cX11_comesOut 11 = .ok (.aload_n 0, 1) := by decide +kernel
theorem dX11_comesOut_12 : decode cX11_comesOut 12 = .ok (.getfield 323, 3) := by decide +kernel
theorem dX11_comesOut_15 : decode cX11_comesOut 15 = .ok (.iconst 1, 1) := by decide +kernel
theorem dX11_comesOut_16 : decode cX11_comesOut 16 = .ok (.isub, 1) := by decide +kernel
theorem dX11_comesOut_17 : decode cX11_comesOut 17 = .ok (.iaload, 1) := by decide +kernel
theorem dX11_comesOut_18 : decode cX11_comesOut 18 = .ok (.istore_n 2, 1) := by decide +kernel
theorem dX11_comesOut_19 : decode cX11_comesOut 19 = .ok (.iload_n 2, 1) := by decide +kernel
theorem dX11_comesOut_20 : decode cX11_comesOut 20 = .ok (.bipush 6, 2) := by decide +kernel
theorem dX11_comesOut_22 : decode cX11_comesOut 22 = .ok (.if_icmp .eq 19, 3) := by decide +kernel
theorem dX11_comesOut_25 : decode cX11_comesOut 25 = .ok (.iload_n 1, 1) := by decide +kernel
theorem dX11_comesOut_26 : decode cX11_comesOut 26 = .ok (.ifCond .eq 16, 3) := by decide +kernel
theorem dX11_comesOut_29 : decode cX11_comesOut 29 = .ok (.iload_n 2, 1) := by decide +kernel
theorem dX11_comesOut_30 : decode cX11_comesOut 30 = .ok (.bipush 8, 2) := by decide +kernel
theorem dX11_comesOut_32 : decode cX11_comesOut 32 = .ok (.if_icmp .eq 9, 3) := by decide +kernel
theorem dX11_comesOut_35 : decode cX11_comesOut 35 = .ok (.iload_n 2, 1) := by decide +kernel
theorem dX11_comesOut_36 : decode cX11_comesOut 36 = .ok (.bipush 9, 2) := by decide +kernel
theorem dX11_comesOut_38 : decode cX11_comesOut 38 = .ok (.if_icmp .ne 4, 3) := by decide +kernel
theorem dX11_comesOut_41 : decode cX11_comesOut 41 = .ok (.return_, 1) := by decide +kernel
theorem dX11_comesOut_42 : decode cX11_comesOut 42 = .ok (.aload_n 0, 1) := by decide +kernel
theorem dX11_comesOut_43 : decode cX11_comesOut 43 = .ok (.dup, 1) := by decide +kernel
theorem dX11_comesOut_44 : decode cX11_comesOut 44 = .ok (.getfield 323, 3) := by decide +kernel
theorem dX11_comesOut_47 : decode cX11_comesOut 47 = .ok (.iconst 1, 1) := by decide +kernel
theorem dX11_comesOut_48 : decode cX11_comesOut 48 = .ok (.isub, 1) := by decide +kernel
theorem dX11_comesOut_49 : decode cX11_comesOut 49 = .ok (.putfield 323, 3) := by decide +kernel
theorem dX11_comesOut_52 : decode cX11_comesOut 52 = .ok (.aload_n 0, 1) := by decide +kernel
theorem dX11_comesOut_53 : decode cX11_comesOut 53 = .ok (.iload_n 2, 1) := by decide +kernel
theorem dX11_comesOut_54 : decode cX11_comesOut 54 = .ok (.bipush 8, 2) := by decide +kernel
theorem dX11_comesOut_56 : decode cX11_comesOut 56 = .ok (.if_icmp .ne 7, 3) := by decide +kernel
theorem dX11_comesOut_59 : decode cX11_comesOut 59 = .ok (.iconst 2, 1) := by decide +kernel
theorem dX11_comesOut_60 : decode cX11_comesOut 60 = .ok (.goto 24, 3) := by decide +kernel
theorem dX11_comesOut_63 : decode cX11_comesOut 63 = .ok (.iload_n 2, 1) := by decide +kernel
theorem dX11_comesOut_64 : decode cX11_comesOut 64 = .ok (.bipush 9, 2) := by decide +kernel
theorem dX11_comesOut_66 : decode cX11_comesOut 66 = .ok (.if_icmp .ne 7, 3) := by decide +kernel
theorem dX11_comesOut_69 : decode cX11_comesOut 69 = .ok (.iconst 3, 1) := by decide +kernel
theorem dX11_comesOut_70 : decode cX11_comesOut 70 = .ok (.goto 14, 3) := by decide +kernel
theorem dX11_comesOut_73 : decode cX11_comesOut 73 = .ok (.iload_n 2, 1) := by decide +kernel
theorem dX11_comesOut_74 : decode cX11_comesOut 74 = .ok (.bipush 10, 2) := by decide +kernel
theorem dX11_comesOut_76 : decode cX11_comesOut 76 = .ok (.if_icmp .ne 7, 3) := by decide +kernel
theorem dX11_comesOut_79 : decode cX11_comesOut 79 = .ok (.iconst 4, 1) := by decide +kernel
theorem dX11_comesOut_80 : decode cX11_comesOut 80 = .ok (.goto 4, 3) := by decide +kernel
theorem dX11_comesOut_83 : decode cX11_comesOut 83 = .ok (.iconst 5, 1) := by decide +kernel
theorem dX11_comesOut_84 : decode cX11_comesOut 84 = .ok (.iconst 0, 1) := by decide +kernel
theorem dX11_comesOut_85 : decode cX11_comesOut 85 = .ok (.invokevirtual 326, 3) := by decide +kernel
theorem dX11_comesOut_88 : decode cX11_comesOut 88 = .ok (.goto (-88), 3) := by decide +kernel
theorem dX11_comesOut_91 : decode cX11_comesOut 91 = .ok (.return_, 1) := by decide +kernel
theorem dX11_expression_0 : decode cX11_expression 0 = .ok (.aload_n 0, 1) := by decide +kernel
theorem dX11_expression_1 : decode cX11_expression 1 = .ok (.iconst 0, 1) := by decide +kernel
theorem dX11_expression_2 : decode cX11_expression 2 = .ok (.putfield 323, 3) := by decide +kernel
theorem dX11_expression_5 : decode cX11_expression 5 = .ok (.aload_n 0, 1) := by decide +kernel
theorem dX11_expression_6 : decode cX11_expression 6 = .ok (.getfield 251, 3) := by decide +kernel
theorem dX11_expression_9 : decode cX11_expression 9 = .ok (.istore_n 1, 1) := by decide +kernel
theorem dX11_expression_10 : decode cX11_expression 10 = .ok (.iconst 1, 1) := by decide +kernel
theorem dX11_expression_11 : decode cX11_expression 11 = .ok (.istore_n 2, 1) := by decide +kernel
theorem dX11_expression_12 : decode cX11_expression 12 = .ok (.iload_n 2, 1) := by decide +kernel
theorem dX11_expression_13 : decode cX11_expression 13 = .ok (.ifCond .eq 259, 3) := by decide +kernel
theorem dX11_expression_16 : decode cX11_expression 16 = .ok (.aload_n 0, 1) := by decide +kernel
theorem dX11_expression_17 : decode cX11_expression 17 = .ok (.getfield 224, 3) := by decide +kernel
theorem dX11_expression_20 : decode cX11_expression 20 = .ok (.ifCond .ne 252, 3) := by decide +kernel
theorem dX11_expression_23 : decode cX11_expression 23 = .ok (.aload_n 0, 1) := by decide +kernel
theorem dX11_expression_24 : decode cX11_expression 24 = .ok (.bipush 6, 2) := by decide +kernel
theorem dX11_expression_26 : decode cX11_expression 26 = .ok (.invokevirtual 242, 3) := by decide +kernel
theorem dX11_expression_29 : decode cX11_expression 29 = .ok (.ifCond .eq 55, 3) := by decide +kernel
theorem dX11_expression_32 : decode cX11_expression 32 = .ok (.aload_n 0, 1) := by decide +kernel
theorem dX11_expression_33 : decode cX11_expression 33 = .ok (.getfield 251, 3) := by decide +kernel
theorem dX11_expression_36 : decode cX11_expression 36 = .ok (.bipush 6, 2) := by decide +kernel
theorem dX11_expression_38 : decode cX11_expression 38 = .ok (.if_icmp .ne 8, 3) := by decide +kernel
theorem dX11_expression_41 : decode cX11_expression 41 = .ok (.aload_n 0, 1) := by decide +kernel
theorem dX11_expression_42 : decode cX11_expression 42 = .ok (.iconst 2, 1) := by decide +kernel
theorem dX11_expression_43 : decode cX11_expression 43 = .ok (.invokevirtual 239, 3) := by decide +kernel
theorem dX11_expression_46 : decode cX11_expression 46 = .ok (.aload_n 0, 1) := by decide +kernel
theorem dX11_expression_47 : decode cX11_expression 47 = .ok (.dup, 1) := by decide +kernel
theorem dX11_expression_48 : decode cX11_expression 48 = .ok (.getfield 251, 3) := by decide +kernel
theorem dX11_expression_51 : decode cX11_expression 51 = .ok (.iconst 1, 1) := by decide +kernel
theorem dX11_expression_52 : decode cX11_expression 52 = .ok (.iadd, 1) := by decide +kernel
theorem dX11_expression_53 : decode cX11_expression 53 = .ok (.putfield 251, 3) := by decide +kernel
theorem dX11_expression_56 : decode cX11_expression 56 = .ok (.aload_n 0, 1) := by decide +kernel
theorem dX11_expression_57 : decode cX11_expression 57 = .ok (.invokevirtual 245, 3) := by decide +kernel
theorem dX11_expression_60 : decode cX11_expression 60 = .ok (.aload_n 0, 1) := by decide +kernel
theorem dX11_expression_61 : decode cX11_expression 61 = .ok (.getfield 122, 3) := by decide +kernel
theorem dX11_expression_64 : decode cX11_expression 64 = .ok (.aload_n 0, 1) := by decide +kernel
theorem dX11_expression_65 : decode cX11_expression 65 = .ok (.getfield 323, 3) := by decide +kernel
theorem dX11_expression_68 : decode cX11_expression 68 = .ok (.bipush 6, 2) := by decide +kernel
theorem dX11_expression_70 : decode cX11_expression 70 = .ok (.iastore, 1) := by decide +kernel
theorem dX11_expression_71 : decode cX11_expression 71 = .ok (.aload_n 0, 1) := by decide +kernel
theorem dX11_expression_72 : decode cX11_expression 72 = .ok (.dup, 1) := by decide +kernel
theorem dX11_expression_73 : decode cX11_expression 73 = .ok (.getfield 323, 3) := by decide +kernel
theorem dX11_expression_76 : decode cX11_expression 76 = .ok (.iconst 1, 1) := by decide +kernel
theorem dX11_expression_77 : decode cX11_expression 77 = .ok (.iadd, 1) := by decide +kernel
theorem dX11_expression_78 : decode cX11_expression 78 = .ok (.putfield 323, 3) := by decide +kernel
theorem dX11_expression_81 : decode cX11_expression 81 = .ok (.goto (-58), 3) := by decide +kernel
theorem dX11_expression_84 : decode cX11_expression 84 = .ok (.aload_n 0, 1) := by decide +kernel
theorem dX11_expression_85 : decode cX11_expression 85 = .ok (.invokevirtual 329, 3) := by decide +kernel
theorem dX11_expression_88 : decode cX11_expression 88 = .ok (.aload_n 0, 1) := by decide +kernel
theorem dX11_expression_89 : decode cX11_expression 89 = .ok (.getfield 224, 3) := by decide +kernel
theorem dX11_expression_92 : decode cX11_expression 92 = .ok (.ifCond .le 4, 3) := by decide +kernel
theorem dX11_expression_95 : decode cX11_expression 95 = .ok (.return_, 1) := by decide +kernel
theorem dX11_expression_96 : decode cX11_expression 96 = .ok (.aload_n 0, 1) := by decide +kernel
theorem dX11_expression_97 : decode cX11_expression 97 = .ok (.bipush 7, 2) := by decide +kernel
theorem dX11_expression_99 : decode cX11_expression 99 = .ok (.invokevirtual 242, 3) := by decide +kernel
theorem dX11_expression_102 : decode cX11_expression 102 = .ok (.ifCond .eq 43, 3) := by decide +kernel
theorem dX11_expression_105 : decode cX11_expression 105 = .ok (.aload_n 0, 1) := by decide +kernel
theorem dX11_expression_106 : decode cX11_expression 106 = .ok (.getfield 251, 3) := by decide +kernel
theorem dX11_expression_109 : decode cX11_expression 109 = .ok (.iload_n 1, 1) := by decide +kernel
theorem dX11_expression_110 : decode cX11_expression 110 = .ok (.if_icmp .le 35, 3) := by decide +kernel
theorem dX11_expression_113 : decode cX11_expression 113 = .ok (.aload_n 0, 1) := by decide +kernel
theorem dX11_expression_114 : decode cX11_expression 114 = .ok (.iconst 0, 1) := by decide +kernel
theorem dX11_expression_115 : decode cX11_expression 115 = .ok (.invokevirtual 332, 3) := by decide +kernel
theorem dX11_expression_118 : decode cX11_expression 118 = .ok (.aload_n 0, 1) := by decide +kernel
theorem dX11_expression_119 : decode cX11_expression 119 = .ok (.dup, 1) := by decide +kernel
theorem dX11_expression_120 : decode cX11_expression 120 = .ok (.getfield 323, 3) := by decide +kernel
theorem dX11_expression_123 : decode cX11_expression 123 = .ok (.iconst 1, 1) := by decide +kernel
theorem dX11_expression_124 : decode cX11_expression 124 = .ok (.isub, 1) := by decide +kernel
theorem dX11_expression_125 : decode cX11_expression 125 = .ok (.putfield 323, 3) := by decide +kernel
theorem dX11_expression_128 : decode cX11_expression 128 = .ok (.aload_n 0, 1) := by decide +kernel
theorem dX11_expression_129 : decode cX11_expression 129 = .ok (.dup, 1) := by decide +kernel
theorem dX11_expression_130 : decode cX11_expression 130 = .ok (.getfield 251, 3) := by decide +kernel
theorem dX11_expression_133 : decode cX11_expression 133 = .ok (.iconst 1, 1) := by decide +kernel
theorem dX11_expression_134 : decode cX11_expression 134 = .ok (.isub, 1) := by decide +kernel
theorem dX11_expression_135 : decode cX11_expression 135 = .ok (.putfield 251, 3) := by decide +kernel
theorem dX11_expression_138 : decode cX11_expression 138 = .ok (.aload_n 0, 1) := by decide +kernel
theorem dX11_expression_139 : decode cX11_expression 139 = .ok (.invokevirtual 245, 3) := by decide +kernel
theorem dX11_expression_142 : decode cX11_expression 142 = .ok (.goto (-46), 3) := by decide +kernel
theorem dX11_expression_145 : decode cX11_expression 145 = .ok (.aload_n 0, 1) := by decide +kernel
theorem dX11_expression_146 : decode cX11_expression 146 = .ok (.bipush 8, 2) := by decide +kernel
theorem dX11_expression_148 : decode cX11_expression 148 = .ok (.invokevirtual 242, 3) := by decide +kernel
theorem dX11_expression_151 : decode cX11_expression 151 = .ok (.ifCond .ne 30, 3) := by decide +kernel
theorem dX11_expression_154 : decode cX11_expression 154 = .ok (.aload_n 0, 1) := by decide +kernel
theorem dX11_expression_155 : decode cX11_expression 155 = .ok (.bipush 9, 2) := by decide +kernel
theorem dX11_expression_157 : decode cX11_expression 157 = .ok (.invokevirtual 242, 3) := by decide +kernel
theorem dX11_expression_160 : decode cX11_expression 160 = .ok (.ifCond .ne 21, 3) := by decide +kernel
theorem dX11_expression_163 : decode cX11_expression 163 = .ok (.aload_n 0, 1) := by decide +kernel
theorem dX11_expression_164 : decode cX11_expression 164 = .ok (.bipush 10, 2) := by decide +kernel
theorem dX11_expression_166 : decode cX11_expression 166 = .ok (.invokevirtual 242, 3) := by decide +kernel
theorem dX11_expression_169 : decode cX11_expression 169 = .ok (.ifCond .ne 12, 3) := by decide +kernel
theorem dX11_expression_172 : decode cX11_expression 172 = .ok (.aload_n 0, 1) := by decide +kernel
theorem dX11_expression_173 : decode cX11_expression 173 = .ok (.bipush 15, 2) := by decide +kernel
theorem dX11_expression_175 : decode cX11_expression 175 = .ok (.invokevirtual 242, 3) := by decide +kernel
theorem dX11_expression_178 : decode cX11_expression 178 = .ok (.ifCond .eq 7, 3) := by decide +kernel
theorem dX11_expression_181 : decode cX11_expression 181 = .ok (.iconst 1, 1) := by decide +kernel
theorem dX11_expression_182 : decode cX11_expression 182 = .ok (.goto 4, 3) := by decide +kernel
theorem dX11_expression_185 : decode cX11_expression 185 = .ok (.iconst 0, 1) := by decide +kernel
theorem dX11_expression_186 : decode cX11_expression 186 = .ok (.istore_n 2, 1) := by decide +kernel
theorem dX11_expression_187 : decode cX11_expression 187 = .ok (.iload_n 2, 1) := by decide +kernel
theorem dX11_expression_188 : decode cX11_expression 188 = .ok (.ifCond .ne 22, 3) := by decide +kernel
theorem dX11_expression_191 : decode cX11_expression 191 = .ok (.aload_n 0, 1) := by decide +kernel
theorem dX11_expression_192 : decode cX11_expression 192 = .ok (.getfield 251, 3) := by decide +kernel
theorem dX11_expression_195 : decode cX11_expression 195 = .ok (.iload_n 1, 1) := by decide +kernel
theorem dX11_expression_196 : decode cX11_expression 196 = .ok (.if_icmp .le 8, 3) := by decide +kernel
theorem dX11_expression_199 : decode cX11_expression 199 = .ok (.aload_n 0, 1) := by decide +kernel
theorem dX11_expression_200 : decode cX11_expression 200 = .ok (.iconst 1, 1) := by decide +kernel
theorem dX11_expression_201 : decode cX11_expression 201 = .ok (.invokevirtual 239, 3) := by decide +kernel
theorem dX11_expression_204 : decode cX11_expression 204 = .ok (.aload_n 0, 1) := by decide +kernel
theorem dX11_expression_205 : decode cX11_expression 205 = .ok (.iconst 0, 1) := by decide +kernel
theorem dX11_expression_206 : decode cX11_expression 206 = .ok (.invokevirtual 332, 3) := by decide +kernel
theorem dX11_expression_209 : decode cX11_expression 209 = .ok (.return_, 1) := by decide +kernel
theorem dX11_expression_210 : decode cX11_expression 210 = .ok (.aload_n 0, 1) := by decide +kernel
theorem dX11_expression_211 : decode cX11_expression 211 = .ok (.aload_n 0, 1) := by decide +kernel
theorem dX11_expression_212 : decode cX11_expression 212 = .ok (.bipush 10, 2) := by decide +kernel
theorem dX11_expression_214 : decode cX11_expression 214 = .ok (.invokevirtual 242, 3) := by decide +kernel
theorem dX11_expression_217 : decode cX11_expression 217 = .ok (.ifCond .ne 12, 3) := by decide +kernel
theorem dX11_expression_220 : decode cX11_expression 220 = .ok (.aload_n 0, 1) := by decide +kernel
theorem dX11_expression_221 : decode cX11_expression 221 = .ok (.bipush 15, 2) := by decide +kernel
theorem dX11_expression_223 : decode cX11_expression 223 = .ok (.invokevirtual 242, 3) := by decide +kernel
theorem dX11_expression_226 : decode cX11_expression 226 = .ok (.ifCond .eq 7, 3) := by decide +kernel
theorem dX11_expression_229 : decode cX11_expression 229 = .ok (.iconst 1, 1) := by decide +kernel
theorem dX11_expression_230 : decode cX11_expression 230 = .ok (.goto 4, 3) := by decide +kernel
theorem dX11_expression_233 : decode cX11_expression 233 = .ok (.iconst 0, 1) := by decide +kernel
theorem dX11_expression_234 : decode cX11_expression 234 = .ok (.invokevirtual 332, 3) := by decide +kernel
theorem dX11_expression_237 : decode cX11_expression 237 = .ok (.aload_n 0, 1) := by decide +kernel
theorem dX11_expression_238 : decode cX11_expression 238 = .ok (.getfield 122, 3) := by decide +kernel
theorem dX11_expression_241 : decode cX11_expression 241 = .ok (.aload_n 0, 1) := by decide +kernel
theorem dX11_expression_242 : decode cX11_expression 242 = .ok (.getfield 323, 3) := by decide +kernel
theorem dX11_expression_245 : decode cX11_expression 245 = .ok (.aload_n 0, 1) := by decide +kernel
theorem dX11_expression_246 : decode cX11_expression 246 = .ok (.getfield 20, 3) := by decide +kernel
theorem dX11_expression_249 : decode cX11_expression 249 = .ok (.aload_n 0, 1) := by decide +kernel
theorem dX11_expression_250 : decode cX11_expression 250 = .ok (.getfield 227, 3) := by decide +kernel
theorem dX11_expression_253 : decode cX11_expression 253 = .ok (.iaload, 1) := by decide +kernel
theorem dX11_expression_254 : decode cX11_expression 254 = .ok (.iastore, 1) := by decide +kernel
theorem dX11_expression_255 : decode cX11_expression 255 = .ok (.aload_n 0, 1) := by decide +kernel
theorem dX11_expression_256 : decode cX11_expression 256 = .ok (.dup, 1) := by decide +kernel
theorem dX11_expression_257 : decode cX11_expression 257 = .ok (.getfield 323, 3) := by decide +kernel
theorem dX11_expression_260 : decode cX11_expression 260 = .ok (.iconst 1, 1) := by decide +kernel
theorem dX11_expression_261 : decode cX11_expression 261 = .ok (.iadd, 1) := by decide +kernel
theorem dX11_expression_262 : decode cX11_expression 262 = .ok (.putfield 323, 3) := by decide +kernel
theorem dX11_expression_265 : decode cX11_expression 265 = .ok (.aload_n 0, 1) := by decide +kernel
theorem dX11_expression_266 : decode cX11_expression 266 = .ok (.invokevirtual 245, 3) := by decide +kernel
theorem dX11_expression_269 : decode cX11_expression 269 = .ok (.goto (-257), 3) := by decide +kernel
theorem dX11_expression_272 : decode cX11_expression 272 = .ok (.return_, 1) := by decide +kernel
theorem dX11_unit_0 : decode cX11_unit 0 = .ok (.aload_n 0, 1) := by decide +kernel
theorem dX11_unit_1 : decode cX11_unit 1 = .ok (.iconst 2, 1) := by decide +kernel
theorem dX11_unit_2 : decode cX11_unit 2 = .ok (.invokevirtual 242, 3) := by decide +kernel
theorem dX11_unit_5 : decode cX11_unit 5 = .ok (.ifCond .eq 24, 3) := by decide +kernel
theorem dX11_unit_8 : decode cX11_unit 8 = .ok (.aload_n 0, 1) := by decide +kernel
theorem dX11_unit_9 : decode cX11_unit 9 = .ok (.iconst 0, 1) := by decide +kernel
theorem dX11_unit_10 : decode cX11_unit 10 = .ok (.aload_n 0, 1) := by decide +kernel
theorem dX11_unit_11 : decode cX11_unit 11 = .ok (.getfield 27, 3) := by decide +kernel
theorem dX11_unit_14 : decode cX11_unit 14 = .ok (.aload_n 0, 1) := by decide +kernel
theorem dX11_unit_15 : decode cX11_unit 15 = .ok (.getfield 227, 3) := by decide +kernel
theorem dX11_unit_18 : decode cX11_unit 18 = .ok (.iaload, 1) := by decide +kernel
theorem dX11_unit_19 : decode cX11_unit 19 = .ok (.invokevirtual 326, 3) := by decide +kernel
theorem dX11_unit_22 : decode cX11_unit 22 = .ok (.aload_n 0, 1) := by decide +kernel
theorem dX11_unit_23 : decode cX11_unit 23 = .ok (.invokevirtual 245, 3) := by decide +kernel
theorem dX11_unit_26 : decode cX11_unit 26 = .ok (.goto 67, 3) := by decide +kernel
theorem dX11_unit_29 : decode cX11_unit 29 = .ok (.aload_n 0, 1) := by decide +kernel
theorem dX11_unit_30 : decode cX11_unit 30 = .ok (.getfield 224, 3) := by decide +kernel
theorem dX11_unit_33 : decode cX11_unit 33 = .ok (.ifCond .ne 55, 3) := by decide +kernel
theorem dX11_unit_36 : decode cX11_unit 36 = .ok (.aload_n 0, 1) := by decide +kernel
theorem dX11_unit_37 : decode cX11_unit 37 = .ok (.getfield 20, 3) := by decide +kernel
theorem dX11_unit_40 : decode cX11_unit 40 = .ok (.aload_n 0, 1) := by decide +kernel
theorem dX11_unit_41 : decode cX11_unit 41 = .ok (.getfield 227, 3) := by decide +kernel
theorem dX11_unit_44 : decode cX11_unit 44 = .ok (.iaload, 1) := by decide +kernel
theorem dX11_unit_45 : decode cX11_unit 45 = .ok (.bipush 33, 2) := by decide +kernel
theorem dX11_unit_47 : decode cX11_unit 47 = .ok (.if_icmp .lt 41, 3) := by decide +kernel
theorem dX11_unit_50 : decode cX11_unit 50 = .ok (.aload_n 0, 1) := by decide +kernel
theorem dX11_unit_51 : decode cX11_unit 51 = .ok (.getfield 20, 3) := by decide +kernel
theorem dX11_unit_54 : decode cX11_unit 54 = .ok (.aload_n 0, 1) := by decide +kernel
theorem dX11_unit_55 : decode cX11_unit 55 = .ok (.getfield 227, 3) := by decide +kernel
theorem dX11_unit_58 : decode cX11_unit 58 = .ok (.iaload, 1) := by decide +kernel
theorem dX11_unit_59 : decode cX11_unit 59 = .ok (.bipush 41, 2) := by decide +kernel
theorem dX11_unit_61 : decode cX11_unit 61 = .ok (.if_icmp .gt 27, 3) := by decide +kernel
theorem dX11_unit_64 : decode cX11_unit 64 = .ok (.aload_n 0, 1) := by decide +kernel
theorem dX11_unit_65 : decode cX11_unit 65 = .ok (.iconst 1, 1) := by decide +kernel
theorem dX11_unit_66 : decode cX11_unit 66 = .ok (.aload_n 0, 1) := by decide +kernel
theorem dX11_unit_67 : decode cX11_unit 67 = .ok (.getfield 20, 3) := by decide +kernel
theorem dX11_unit_70 : decode cX11_unit 70 = .ok (.aload_n 0, 1) := by decide +kernel
theorem dX11_unit_71 : decode cX11_unit 71 = .ok (.getfield 227, 3) := by decide +kernel
theorem dX11_unit_74 : decode cX11_unit 74 = .ok (.iaload, 1) := by decide +kernel
theorem dX11_unit_75 : decode cX11_unit 75 = .ok (.bipush 33, 2) := by decide +kernel
theorem dX11_unit_77 : decode cX11_unit 77 = .ok (.isub, 1) := by decide +kernel
theorem dX11_unit_78 : decode cX11_unit 78 = .ok (.invokevirtual 326, 3) := by decide +kernel
theorem dX11_unit_81 : decode cX11_unit 81 = .ok (.aload_n 0, 1) := by decide +kernel
theorem dX11_unit_82 : decode cX11_unit 82 = .ok (.invokevirtual 245, 3) := by decide +kernel
theorem dX11_unit_85 : decode cX11_unit 85 = .ok (.goto 8, 3) := by decide +kernel
theorem dX11_unit_88 : decode cX11_unit 88 = .ok (.aload_n 0, 1) := by decide +kernel
theorem dX11_unit_89 : decode cX11_unit 89 = .ok (.iconst 1, 1) := by decide +kernel
theorem dX11_unit_90 : decode cX11_unit 90 = .ok (.invokevirtual 239, 3) := by decide +kernel
theorem dX11_unit_93 : decode cX11_unit 93 = .ok (.return_, 1) := by decide +kernel
theorem dX11_termOf_0 : decode cX11_termOf 0 = .ok (.iconst 0, 1) := by decide +kernel
theorem dX11_termOf_1 : decode cX11_termOf 1 = .ok (.istore_n 3, 1) := by decide +kernel
theorem dX11_termOf_2 : decode cX11_termOf 2 = .ok (.iload_n 1, 1) := by decide +kernel
theorem dX11_termOf_3 : decode cX11_termOf 3 = .ok (.istore 4, 2) := by decide +kernel
theorem dX11_termOf_5 : decode cX11_termOf 5 = .ok (.iload 4, 2) := by decide +kernel
theorem dX11_termOf_7 : decode cX11_termOf 7 = .ok (.iload_n 2, 1) := by decide +kernel
theorem dX11_termOf_8 : decode cX11_termOf 8 = .ok (.if_icmp .ge 157, 3) := by decide +kernel
theorem dX11_termOf_11 : decode cX11_termOf 11 = .ok (.aload_n 0, 1) := by decide +kernel
theorem dX11_termOf_12 : decode cX11_termOf 12 = .ok (.getfield 116, 3) := by decide +kernel
theorem dX11_termOf_15 : decode cX11_termOf 15 = .ok (.iload 4, 2) := by decide +kernel
theorem dX11_termOf_17 : decode cX11_termOf 17 = .ok (.iaload, 1) := by decide +kernel
theorem dX11_termOf_18 : decode cX11_termOf 18 = .ok (.istore 5, 2) := by decide +kernel
theorem dX11_termOf_20 : decode cX11_termOf 20 = .ok (.iload 5, 2) := by decide +kernel
theorem dX11_termOf_22 : decode cX11_termOf 22 = .ok (.iconst 2, 1) := by decide +kernel
theorem dX11_termOf_23 : decode cX11_termOf 23 = .ok (.if_icmp .ge 42, 3) := by decide +kernel
theorem dX11_termOf_26 : decode cX11_termOf 26 = .ok (.aload_n 0, 1) := by decide +kernel
theorem dX11_termOf_27 : decode cX11_termOf 27 = .ok (.getfield 128, 3) := by decide +kernel
theorem dX11_termOf_30 : decode cX11_termOf 30 = .ok (.iload_n 3, 1) := by decide +kernel
theorem dX11_termOf_31 : decode cX11_termOf 31 = .ok (.iload 5, 2) := by decide +kernel
theorem dX11_termOf_33 : decode cX11_termOf 33 = .ok (.ifCond .ne 13, 3) := by decide +kernel
theorem dX11_termOf_36 : decode cX11_termOf 36 = .ok (.aload_n 0, 1) := by decide +kernel
theorem dX11_termOf_37 : decode cX11_termOf 37 = .ok (.getfield 119, 3) := by decide +kernel
theorem dX11_termOf_40 : decode cX11_termOf 40 = .ok (.iload 4, 2) := by decide +kernel
theorem dX11_termOf_42 : decode cX11_termOf 42 = .ok (.iaload, 1) := by decide +kernel
theorem dX11_termOf_43 : decode cX11_termOf 43 = .ok (.goto 15, 3) := by decide +kernel
theorem dX11_termOf_46 : decode cX11_termOf 46 = .ok (.aload_n 0, 1) := by decide +kernel
theorem dX11_termOf_47 : decode cX11_termOf 47 = .ok (.getfield 125, 3) := by decide +kernel
theorem dX11_termOf_50 : decode cX11_termOf 50 = .ok (.aload_n 0, 1) := by decide +kernel
theorem dX11_termOf_51 : decode cX11_termOf 51 = .ok (.getfield 119, 3) := by decide +kernel
theorem dX11_termOf_54 : decode cX11_termOf 54 = .ok (.iload 4, 2) := by decide +kernel
theorem dX11_termOf_56 : decode cX11_termOf 56 = .ok (.iaload, 1) := by decide +kernel
theorem dX11_termOf_57 : decode cX11_termOf 57 = .ok (.iaload, 1) := by decide +kernel
theorem dX11_termOf_58 : decode cX11_termOf 58 = .ok (.iastore, 1) := by decide +kernel
theorem dX11_termOf_59 : decode cX11_termOf 59 = .ok (.iinc 3 1, 3) := by decide +kernel
theorem dX11_termOf_62 : decode cX11_termOf 62 = .ok (.goto 97, 3) := by decide +kernel
theorem dX11_termOf_65 : decode cX11_termOf 65 = .ok (.iinc 3 (-1), 3) := by decide +kernel
theorem dX11_termOf_68 : decode cX11_termOf 68 = .ok (.aload_n 0, 1) := by decide +kernel
theorem dX11_termOf_69 : decode cX11_termOf 69 = .ok (.getfield 128, 3) := by decide +kernel
theorem dX11_termOf_72 : decode cX11_termOf 72 = .ok (.iload_n 3, 1) := by decide +kernel
theorem dX11_termOf_73 : decode cX11_termOf 73 = .ok (.iconst 1, 1) := by decide +kernel
theorem dX11_termOf_74 : decode cX11_termOf 74 = .ok (.isub, 1) := by decide +kernel
theorem dX11_termOf_75 : decode cX11_termOf 75 = .ok (.iaload, 1) := by decide +kernel
theorem dX11_termOf_76 : decode cX11_termOf 76 = .ok (.istore 6, 2) := by decide +kernel
theorem dX11_termOf_78 : decode cX11_termOf 78 = .ok (.aload_n 0, 1) := by decide +kernel
theorem dX11_termOf_79 : decode cX11_termOf 79 = .ok (.getfield 128, 3) := by decide +kernel
theorem dX11_termOf_82 : decode cX11_termOf 82 = .ok (.iload_n 3, 1) := by decide +kernel
theorem dX11_termOf_83 : decode cX11_termOf 83 = .ok (.iaload, 1) := by decide +kernel
theorem dX11_termOf_84 : decode cX11_termOf 84 = .ok (.istore 7, 2) := by decide +kernel
theorem dX11_termOf_86 : decode cX11_termOf 86 = .ok (.iload 5, 2) := by decide +kernel
theorem dX11_termOf_88 : decode cX11_termOf 88 = .ok (.iconst 5, 1) := by decide +kernel
theorem dX11_termOf_89 : decode cX11_termOf 89 = .ok (.if_icmp .ne 15, 3) := by decide +kernel
theorem dX11_termOf_92 : decode cX11_termOf 92 = .ok (.iload 7, 2) := by decide +kernel
theorem dX11_termOf_94 : decode cX11_termOf 94 = .ok (.ifCond .ne 10, 3) := by decide +kernel
theorem dX11_termOf_97 : decode cX11_termOf 97 = .ok (.aload_n 0, 1) := by decide +kernel
theorem dX11_termOf_98 : decode cX11_termOf 98 = .ok (.iconst 1, 1) := by decide +kernel
theorem dX11_termOf_99 : decode cX11_termOf 99 = .ok (.putfield 336, 3) := by decide +kernel
theorem dX11_termOf_102 : decode cX11_termOf 102 = .ok (.iconst 0, 1) := by decide +kernel
theorem dX11_termOf_103 : decode cX11_termOf 103 = .ok (.ireturn, 1) := by decide +kernel
theorem dX11_termOf_104 : decode cX11_termOf 104 = .ok (.aload_n 0, 1) := by decide +kernel
theorem dX11_termOf_105 : decode cX11_termOf 105 = .ok (.getfield 128, 3) := by decide +kernel
theorem dX11_termOf_108 : decode cX11_termOf 108 = .ok (.iload_n 3, 1) := by decide +kernel
theorem dX11_termOf_109 : decode cX11_termOf 109 = .ok (.iconst 1, 1) := by decide +kernel
theorem dX11_termOf_110 : decode cX11_termOf 110 = .ok (.isub, 1) := by decide +kernel
theorem dX11_termOf_111 : decode cX11_termOf 111 = .ok (.iload 5, 2) := by decide +kernel
theorem dX11_termOf_113 : decode cX11_termOf 113 = .ok (.iconst 2, 1) := by decide +kernel
theorem dX11_termOf_114 : decode cX11_termOf 114 = .ok (.if_icmp .ne 11, 3) := by decide +kernel
theorem dX11_termOf_117 : decode cX11_termOf 117 = .ok (.iload 6, 2) := by decide +kernel
theorem dX11_termOf_119 : decode cX11_termOf 119 = .ok (.iload 7, 2) := by decide +kernel
theorem dX11_termOf_121 : decode cX11_termOf 121 = .ok (.iadd, 1) := by decide +kernel
theorem dX11_termOf_122 : decode cX11_termOf 122 = .ok (.goto 36, 3) := by decide +kernel
theorem dX11_termOf_125 : decode cX11_termOf 125 = .ok (.iload 5, 2) := by decide +kernel
theorem dX11_termOf_127 : decode cX11_termOf 127 = .ok (.iconst 3, 1) := by decide +kernel
theorem dX11_termOf_128 : decode cX11_termOf 128 = .ok (.if_icmp .ne 11, 3) := by decide +kernel
theorem dX11_termOf_131 : decode cX11_termOf 131 = .ok (.iload 6, 2) := by decide +kernel
theorem dX11_termOf_133 : decode cX11_termOf 133 = .ok (.iload 7, 2) := by decide +kernel
theorem dX11_termOf_135 : decode cX11_termOf 135 = .ok (.isub, 1) := by decide +kernel
theorem dX11_termOf_136 : decode cX11_termOf 136 = .ok (.goto 22, 3) := by decide +kernel
theorem dX11_termOf_139 : decode cX11_termOf 139 = .ok (.iload 5, 2) := by decide +kernel
theorem dX11_termOf_141 : decode cX11_termOf 141 = .ok (.iconst 4, 1) := by decide +kernel
theorem dX11_termOf_142 : decode cX11_termOf 142 = .ok (.if_icmp .ne 11, 3) := by decide +kernel
theorem dX11_termOf_145 : decode cX11_termOf 145 = .ok (.iload 6, 2) := by decide +kernel
theorem dX11_termOf_147 : decode cX11_termOf 147 = .ok (.iload 7, 2) := by decide +kernel
theorem dX11_termOf_149 : decode cX11_termOf 149 = .ok (.imul, 1) := by decide +kernel
theorem dX11_termOf_150 : decode cX11_termOf 150 = .ok (.goto 8, 3) := by decide +kernel
theorem dX11_termOf_153 : decode cX11_termOf 153 = .ok (.iload 6, 2) := by decide +kernel
theorem dX11_termOf_155 : decode cX11_termOf 155 = .ok (.iload 7, 2) := by decide +kernel
theorem dX11_termOf_157 : decode cX11_termOf 157 = .ok (.idiv, 1) := by decide +kernel
theorem dX11_termOf_158 : decode cX11_termOf 158 = .ok (.iastore, 1) := by decide +kernel
theorem dX11_termOf_159 : decode cX11_termOf 159 = .ok (.iinc 4 1, 3) := by decide +kernel
theorem dX11_termOf_162 : decode cX11_termOf 162 = .ok (.goto (-157), 3) := by decide +kernel
theorem dX11_termOf_165 : decode cX11_termOf 165 = .ok (.aload_n 0, 1) := by decide +kernel
theorem dX11_termOf_166 : decode cX11_termOf 166 = .ok (.getfield 128, 3) := by decide +kernel
theorem dX11_termOf_169 : decode cX11_termOf 169 = .ok (.iconst 0, 1) := by decide +kernel
theorem dX11_termOf_170 : decode cX11_termOf 170 = .ok (.iaload, 1) := by decide +kernel
theorem dX11_termOf_171 : decode cX11_termOf 171 = .ok (.ireturn, 1) := by decide +kernel
theorem dX11_in_0 : decode cX11_in 0 = .ok (.iload_n 0, 1) := by decide +kernel
theorem dX11_in_1 : decode cX11_in 1 = .ok (.iload_n 1, 1) := by decide +kernel
theorem dX11_in_2 : decode cX11_in 2 = .ok (.if_icmp .lt 12, 3) := by decide +kernel
theorem dX11_in_5 : decode cX11_in 5 = .ok (.iload_n 0, 1) := by decide +kernel
theorem dX11_in_6 : decode cX11_in 6 = .ok (.iload_n 2, 1) := by decide +kernel
theorem dX11_in_7 : decode cX11_in 7 = .ok (.if_icmp .gt 7, 3) := by decide +kernel
theorem dX11_in_10 : decode cX11_in 10 = .ok (.iconst 1, 1) := by decide +kernel
theorem dX11_in_11 : decode cX11_in 11 = .ok (.goto 4, 3) := by decide +kernel
theorem dX11_in_14 : decode cX11_in 14 = .ok (.iconst 0, 1) := by decide +kernel
theorem dX11_in_15 : decode cX11_in 15 = .ok (.ireturn, 1) := by decide +kernel
theorem dX11_held_0 : decode cX11_held 0 = .ok (.iload_n 0, 1) := by decide +kernel
theorem dX11_held_1 : decode cX11_held 1 = .ok (.iload_n 1, 1) := by decide +kernel
theorem dX11_held_2 : decode cX11_held 2 = .ok (.if_icmp .ge 7, 3) := by decide +kernel
theorem dX11_held_5 : decode cX11_held 5 = .ok (.iload_n 1, 1) := by decide +kernel
theorem dX11_held_6 : decode cX11_held 6 = .ok (.goto 13, 3) := by decide +kernel
theorem dX11_held_9 : decode cX11_held 9 = .ok (.iload_n 0, 1) := by decide +kernel
theorem dX11_held_10 : decode cX11_held 10 = .ok (.iload_n 2, 1) := by decide +kernel
theorem dX11_held_11 : decode cX11_held 11 = .ok (.if_icmp .le 7, 3) := by decide +kernel
theorem dX11_held_14 : decode cX11_held 14 = .ok (.iload_n 2, 1) := by decide +kernel
theorem dX11_held_15 : decode cX11_held 15 = .ok (.goto 4, 3) := by decide +kernel
theorem dX11_held_18 : decode cX11_held 18 = .ok (.iload_n 0, 1) := by decide +kernel
theorem dX11_held_19 : decode cX11_held 19 = .ok (.ireturn, 1) := by decide +kernel
theorem dX11_bits_0 : decode cX11_bits 0 = .ok (.iconst 0, 1) := by decide +kernel
theorem dX11_bits_1 : decode cX11_bits 1 = .ok (.istore_n 1, 1) := by decide +kernel
theorem dX11_bits_2 : decode cX11_bits 2 = .ok (.iconst 0, 1) := by decide +kernel
theorem dX11_bits_3 : decode cX11_bits 3 = .ok (.istore_n 2, 1) := by decide +kernel
theorem dX11_bits_4 : decode cX11_bits 4 = .ok (.iload_n 2, 1) := by decide +kernel
theorem dX11_bits_5 : decode cX11_bits 5 = .ok (.bipush 20, 2) := by decide +kernel
theorem dX11_bits_7 : decode cX11_bits 7 = .ok (.if_icmp .ge 17, 3) := by decide +kernel
theorem dX11_bits_10 : decode cX11_bits 10 = .ok (.iload_n 1, 1) := by decide +kernel
theorem dX11_bits_11 : decode cX11_bits 11 = .ok (.iload_n 0, 1) := by decide +kernel
theorem dX11_bits_12 : decode cX11_bits 12 = .ok (.iload_n 2, 1) := by decide +kernel
theorem dX11_bits_13 : decode cX11_bits 13 = .ok (.ishr, 1) := by decide +kernel
theorem dX11_bits_14 : decode cX11_bits 14 = .ok (.iconst 1, 1) := by decide +kernel
theorem dX11_bits_15 : decode cX11_bits 15 = .ok (.iand, 1) := by decide +kernel
theorem dX11_bits_16 : decode cX11_bits 16 = .ok (.iadd, 1) := by decide +kernel
theorem dX11_bits_17 : decode cX11_bits 17 = .ok (.istore_n 1, 1) := by decide +kernel
theorem dX11_bits_18 : decode cX11_bits 18 = .ok (.iinc 2 1, 3) := by decide +kernel
theorem dX11_bits_21 : decode cX11_bits 21 = .ok (.goto (-17), 3) := by decide +kernel
theorem dX11_bits_24 : decode cX11_bits 24 = .ok (.iload_n 1, 1) := by decide +kernel
theorem dX11_bits_25 : decode cX11_bits 25 = .ok (.ireturn, 1) := by decide +kernel
theorem dX11_isPerson_0 : decode cX11_isPerson 0 = .ok (.iload_n 1, 1) := by decide +kernel
theorem dX11_isPerson_1 : decode cX11_isPerson 1 = .ok (.iconst 0, 1) := by decide +kernel
theorem dX11_isPerson_2 : decode cX11_isPerson 2 = .ok (.aload_n 0, 1) := by decide +kernel
theorem dX11_isPerson_3 : decode cX11_isPerson 3 = .ok (.getfield 46, 3) := by decide +kernel
theorem dX11_isPerson_6 : decode cX11_isPerson 6 = .ok (.aload_n 0, 1) := by decide +kernel
theorem dX11_isPerson_7 : decode cX11_isPerson 7 = .ok (.getfield 254, 3) := by decide +kernel
theorem dX11_isPerson_10 : decode cX11_isPerson 10 = .ok (.iaload, 1) := by decide +kernel
theorem dX11_isPerson_11 : decode cX11_isPerson 11 = .ok (.iconst 1, 1) := by decide +kernel
theorem dX11_isPerson_12 : decode cX11_isPerson 12 = .ok (.isub, 1) := by decide +kernel
theorem dX11_isPerson_13 : decode cX11_isPerson 13 = .ok (.invokestatic 340, 3) := by decide +kernel
theorem dX11_isPerson_16 : decode cX11_isPerson 16 = .ok (.ireturn, 1) := by decide +kernel
theorem dX11_isPlot_0 : decode cX11_isPlot 0 = .ok (.iload_n 1, 1) := by decide +kernel
theorem dX11_isPlot_1 : decode cX11_isPlot 1 = .ok (.iconst 0, 1) := by decide +kernel
theorem dX11_isPlot_2 : decode cX11_isPlot 2 = .ok (.aload_n 0, 1) := by decide +kernel
theorem dX11_isPlot_3 : decode cX11_isPlot 3 = .ok (.getfield 49, 3) := by decide +kernel
theorem dX11_isPlot_6 : decode cX11_isPlot 6 = .ok (.aload_n 0, 1) := by decide +kernel
theorem dX11_isPlot_7 : decode cX11_isPlot 7 = .ok (.getfield 254, 3) := by decide +kernel
theorem dX11_isPlot_10 : decode cX11_isPlot 10 = .ok (.iaload, 1) := by decide +kernel
theorem dX11_isPlot_11 : decode cX11_isPlot 11 = .ok (.iconst 1, 1) := by decide +kernel
theorem dX11_isPlot_12 : decode cX11_isPlot 12 = .ok (.isub, 1) := by decide +kernel
theorem dX11_isPlot_13 : decode cX11_isPlot 13 = .ok (.invokestatic 340, 3) := by decide +kernel
theorem dX11_isPlot_16 : decode cX11_isPlot 16 = .ok (.ireturn, 1) := by decide +kernel
theorem dX11_isWitness_0 : decode cX11_isWitness 0 = .ok (.iload_n 1, 1) := by decide +kernel
theorem dX11_isWitness_1 : decode cX11_isWitness 1 = .ok (.iconst 0, 1) := by decide +kernel
theorem dX11_isWitness_2 : decode cX11_isWitness 2 = .ok (.aload_n 0, 1) := by decide +kernel
theorem dX11_isWitness_3 : decode cX11_isWitness 3 = .ok (.getfield 61, 3) := by decide +kernel
theorem dX11_isWitness_6 : decode cX11_isWitness 6 = .ok (.aload_n 0, 1) := by decide +kernel
theorem dX11_isWitness_7 : decode cX11_isWitness 7 = .ok (.getfield 254, 3) := by decide +kernel
theorem dX11_isWitness_10 : decode cX11_isWitness 10 = .ok (.iaload, 1) := by decide +kernel
theorem dX11_isWitness_11 : decode cX11_isWitness 11 = .ok (.iconst 1, 1) := by decide +kernel
theorem dX11_isWitness_12 : decode cX11_isWitness 12 = .ok (.isub, 1) := by decide +kernel
theorem dX11_isWitness_13 : decode cX11_isWitness 13 = .ok (.invokestatic 340, 3) := by decide +kernel
theorem dX11_isWitness_16 : decode cX11_isWitness 16 = .ok (.ireturn, 1) := by decide +kernel
theorem dX11_isGiving_0 : decode cX11_isGiving 0 = .ok (.iload_n 1, 1) := by decide +kernel
theorem dX11_isGiving_1 : decode cX11_isGiving 1 = .ok (.iconst 0, 1) := by decide +kernel
theorem dX11_isGiving_2 : decode cX11_isGiving 2 = .ok (.aload_n 0, 1) := by decide +kernel
theorem dX11_isGiving_3 : decode cX11_isGiving 3 = .ok (.getfield 131, 3) := by decide +kernel
theorem dX11_isGiving_6 : decode cX11_isGiving 6 = .ok (.bipush 15, 2) := by decide +kernel
theorem dX11_isGiving_8 : decode cX11_isGiving 8 = .ok (.iaload, 1) := by decide +kernel
theorem dX11_isGiving_9 : decode cX11_isGiving 9 = .ok (.iconst 1, 1) := by decide +kernel
theorem dX11_isGiving_10 : decode cX11_isGiving 10 = .ok (.isub, 1) := by decide +kernel
theorem dX11_isGiving_11 : decode cX11_isGiving 11 = .ok (.invokestatic 340, 3) := by decide +kernel
theorem dX11_isGiving_14 : decode cX11_isGiving 14 = .ok (.ireturn, 1) := by decide +kernel
theorem dX11_begins_0 : decode cX11_begins 0 = .ok (.iconst 0, 1) := by decide +kernel
theorem dX11_begins_1 : decode cX11_begins 1 = .ok (.istore_n 1, 1) := by decide +kernel
theorem dX11_begins_2 : decode cX11_begins 2 = .ok (.iload_n 1, 1) := by decide +kernel
theorem dX11_begins_3 : decode cX11_begins 3 = .ok (.bipush 117, 2) := by decide +kernel
theorem dX11_begins_5 : decode cX11_begins 5 = .ok (.if_icmp .ge 16, 3) := by decide +kernel
theorem dX11_begins_8 : decode cX11_begins 8 = .ok (.aload_n 0, 1) := by decide +kernel
theorem dX11_begins_9 : decode cX11_begins 9 = .ok (.getfield 134, 3) := by decide +kernel
theorem dX11_begins_12 : decode cX11_begins 12 = .ok (.iload_n 1, 1) := by decide +kernel
theorem dX11_begins_13 : decode cX11_begins 13 = .ok (.iconst 0, 1) := by decide +kernel
theorem dX11_begins_14 : decode cX11_begins 14 = .ok (.iastore, 1) := by decide +kernel
theorem dX11_begins_15 : decode cX11_begins 15 = .ok (.iinc 1 1, 3) := by decide +kernel
theorem dX11_begins_18 : decode cX11_begins 18 = .ok (.goto (-16), 3) := by decide +kernel
theorem dX11_begins_21 : decode cX11_begins 21 = .ok (.iconst 0, 1) := by decide +kernel
theorem dX11_begins_22 : decode cX11_begins 22 = .ok (.istore_n 1, 1) := by decide +kernel
theorem dX11_begins_23 : decode cX11_begins 23 = .ok (.iload_n 1, 1) := by decide +kernel
theorem dX11_begins_24 : decode cX11_begins 24 = .ok (.aload_n 0, 1) := by decide +kernel
theorem dX11_begins_25 : decode cX11_begins 25 = .ok (.getfield 61, 3) := by decide +kernel
theorem dX11_begins_28 : decode cX11_begins 28 = .ok (.aload_n 0, 1) := by decide +kernel
theorem dX11_begins_29 : decode cX11_begins 29 = .ok (.getfield 254, 3) := by decide +kernel
theorem dX11_begins_32 : decode cX11_begins 32 = .ok (.iaload, 1) := by decide +kernel
theorem dX11_begins_33 : decode cX11_begins 33 = .ok (.if_icmp .ge 39, 3) := by decide +kernel
theorem dX11_begins_36 : decode cX11_begins 36 = .ok (.aload_n 0, 1) := by decide +kernel
theorem dX11_begins_37 : decode cX11_begins 37 = .ok (.getfield 134, 3) := by decide +kernel
theorem dX11_begins_40 : decode cX11_begins 40 = .ok (.iload_n 1, 1) := by decide +kernel
theorem dX11_begins_41 : decode cX11_begins 41 = .ok (.aload_n 0, 1) := by decide +kernel
theorem dX11_begins_42 : decode cX11_begins 42 = .ok (.getfield 64, 3) := by decide +kernel
theorem dX11_begins_45 : decode cX11_begins 45 = .ok (.bipush 7, 2) := by decide +kernel
theorem dX11_begins_47 : decode cX11_begins 47 = .ok (.aload_n 0, 1) := by decide +kernel
theorem dX11_begins_48 : decode cX11_begins 48 = .ok (.getfield 254, 3) := by decide +kernel
theorem dX11_begins_51 : decode cX11_begins 51 = .ok (.imul, 1) := by decide +kernel
theorem dX11_begins_52 : decode cX11_begins 52 = .ok (.iload_n 1, 1) := by decide +kernel
theorem dX11_begins_53 : decode cX11_begins 53 = .ok (.iadd, 1) := by decide +kernel
theorem dX11_begins_54 : decode cX11_begins 54 = .ok (.iaload, 1) := by decide +kernel
theorem dX11_begins_55 : decode cX11_begins 55 = .ok (.iastore, 1) := by decide +kernel
theorem dX11_begins_56 : decode cX11_begins 56 = .ok (.aload_n 0, 1) := by decide +kernel
theorem dX11_begins_57 : decode cX11_begins 57 = .ok (.getfield 134, 3) := by decide +kernel
theorem dX11_begins_60 : decode cX11_begins 60 = .ok (.bipush 7, 2) := by decide +kernel
theorem dX11_begins_62 : decode cX11_begins 62 = .ok (.iload_n 1, 1) := by decide +kernel
theorem dX11_begins_63 : decode cX11_begins 63 = .ok (.iadd, 1) := by decide +kernel
theorem dX11_begins_64 : decode cX11_begins 64 = .ok (.iconst 1, 1) := by decide +kernel
theorem dX11_begins_65 : decode cX11_begins 65 = .ok (.iastore, 1) := by decide +kernel
theorem dX11_begins_66 : decode cX11_begins 66 = .ok (.iinc 1 1, 3) := by decide +kernel
theorem dX11_begins_69 : decode cX11_begins 69 = .ok (.goto (-46), 3) := by decide +kernel
theorem dX11_begins_72 : decode cX11_begins 72 = .ok (.aload_n 0, 1) := by decide +kernel
theorem dX11_begins_73 : decode cX11_begins 73 = .ok (.getfield 134, 3) := by decide +kernel
theorem dX11_begins_76 : decode cX11_begins 76 = .ok (.bipush 15, 2) := by decide +kernel
theorem dX11_begins_78 : decode cX11_begins 78 = .ok (.aload_n 0, 1) := by decide +kernel
theorem dX11_begins_79 : decode cX11_begins 79 = .ok (.getfield 70, 3) := by decide +kernel
theorem dX11_begins_82 : decode cX11_begins 82 = .ok (.aload_n 0, 1) := by decide +kernel
theorem dX11_begins_83 : decode cX11_begins 83 = .ok (.getfield 254, 3) := by decide +kernel
theorem dX11_begins_86 : decode cX11_begins 86 = .ok (.iaload, 1) := by decide +kernel
theorem dX11_begins_87 : decode cX11_begins 87 = .ok (.iastore, 1) := by decide +kernel
theorem dX11_begins_88 : decode cX11_begins 88 = .ok (.iconst 0, 1) := by decide +kernel
theorem dX11_begins_89 : decode cX11_begins 89 = .ok (.istore_n 1, 1) := by decide +kernel
theorem dX11_begins_90 : decode cX11_begins 90 = .ok (.iload_n 1, 1) := by decide +kernel
theorem dX11_begins_91 : decode cX11_begins 91 = .ok (.aload_n 0, 1) := by decide +kernel
theorem dX11_begins_92 : decode cX11_begins 92 = .ok (.getfield 70, 3) := by decide +kernel
theorem dX11_begins_95 : decode cX11_begins 95 = .ok (.aload_n 0, 1) := by decide +kernel
theorem dX11_begins_96 : decode cX11_begins 96 = .ok (.getfield 254, 3) := by decide +kernel
theorem dX11_begins_99 : decode cX11_begins 99 = .ok (.iaload, 1) := by decide +kernel
theorem dX11_begins_100 : decode cX11_begins 100 = .ok (.if_icmp .ge 125, 3) := by decide +kernel
theorem dX11_begins_103 : decode cX11_begins 103 = .ok (.aload_n 0, 1) := by decide +kernel
theorem dX11_begins_104 : decode cX11_begins 104 = .ok (.getfield 134, 3) := by decide +kernel
theorem dX11_begins_107 : decode cX11_begins 107 = .ok (.bipush 17, 2) := by decide +kernel
theorem dX11_begins_109 : decode cX11_begins 109 = .ok (.iload_n 1, 1) := by decide +kernel
theorem dX11_begins_110 : decode cX11_begins 110 = .ok (.iadd, 1) := by decide +kernel
theorem dX11_begins_111 : decode cX11_begins 111 = .ok (.aload_n 0, 1) := by decide +kernel
theorem dX11_begins_112 : decode cX11_begins 112 = .ok (.getfield 73, 3) := by decide +kernel
theorem dX11_begins_115 : decode cX11_begins 115 = .ok (.bipush 12, 2) := by decide +kernel
theorem dX11_begins_117 : decode cX11_begins 117 = .ok (.aload_n 0, 1) := by decide +kernel
theorem dX11_begins_118 : decode cX11_begins 118 = .ok (.getfield 254, 3) := by decide +kernel
theorem dX11_begins_121 : decode cX11_begins 121 = .ok (.imul, 1) := by decide +kernel
theorem dX11_begins_122 : decode cX11_begins 122 = .ok (.iload_n 1, 1) := by decide +kernel
theorem dX11_begins_123 : decode cX11_begins 123 = .ok (.iadd, 1) := by decide +kernel
theorem dX11_begins_124 : decode cX11_begins 124 = .ok (.iaload, 1) := by decide +kernel
theorem dX11_begins_125 : decode cX11_begins 125 = .ok (.iastore, 1) := by decide +kernel
theorem dX11_begins_126 : decode cX11_begins 126 = .ok (.aload_n 0, 1) := by decide +kernel
theorem dX11_begins_127 : decode cX11_begins 127 = .ok (.getfield 134, 3) := by decide +kernel
theorem dX11_begins_130 : decode cX11_begins 130 = .ok (.bipush 37, 2) := by decide +kernel
theorem dX11_begins_132 : decode cX11_begins 132 = .ok (.iload_n 1, 1) := by decide +kernel
theorem dX11_begins_133 : decode cX11_begins 133 = .ok (.iadd, 1) := by decide +kernel
theorem dX11_begins_134 : decode cX11_begins 134 = .ok (.aload_n 0, 1) := by decide +kernel
theorem dX11_begins_135 : decode cX11_begins 135 = .ok (.getfield 76, 3) := by decide +kernel
theorem dX11_begins_138 : decode cX11_begins 138 = .ok (.bipush 12, 2) := by decide +kernel
theorem dX11_begins_140 : decode cX11_begins 140 = .ok (.aload_n 0, 1) := by decide +kernel
theorem dX11_begins_141 : decode cX11_begins 141 = .ok (.getfield 254, 3) := by decide +kernel
theorem dX11_begins_144 : decode cX11_begins 144 = .ok (.imul, 1) := by decide +kernel
theorem dX11_begins_145 : decode cX11_begins 145 = .ok (.iload_n 1, 1) := by decide +kernel
theorem dX11_begins_146 : decode cX11_begins 146 = .ok (.iadd, 1) := by decide +kernel
theorem dX11_begins_147 : decode cX11_begins 147 = .ok (.iaload, 1) := by decide +kernel
theorem dX11_begins_148 : decode cX11_begins 148 = .ok (.iastore, 1) := by decide +kernel
theorem dX11_begins_149 : decode cX11_begins 149 = .ok (.aload_n 0, 1) := by decide +kernel
theorem dX11_begins_150 : decode cX11_begins 150 = .ok (.getfield 134, 3) := by decide +kernel
theorem dX11_begins_153 : decode cX11_begins 153 = .ok (.bipush 57, 2) := by decide +kernel
theorem dX11_begins_155 : decode cX11_begins 155 = .ok (.iload_n 1, 1) := by decide +kernel
theorem dX11_begins_156 : decode cX11_begins 156 = .ok (.iadd, 1) := by decide +kernel
theorem dX11_begins_157 : decode cX11_begins 157 = .ok (.aload_n 0, 1) := by decide +kernel
theorem dX11_begins_158 : decode cX11_begins 158 = .ok (.getfield 79, 3) := by decide +kernel
theorem dX11_begins_161 : decode cX11_begins 161 = .ok (.bipush 12, 2) := by decide +kernel
theorem dX11_begins_163 : decode cX11_begins 163 = .ok (.aload_n 0, 1) := by decide +kernel
theorem dX11_begins_164 : decode cX11_begins 164 = .ok (.getfield 254, 3) := by decide +kernel
theorem dX11_begins_167 : decode cX11_begins 167 = .ok (.imul, 1) := by decide +kernel
theorem dX11_begins_168 : decode cX11_begins 168 = .ok (.iload_n 1, 1) := by decide +kernel
theorem dX11_begins_169 : decode cX11_begins 169 = .ok (.iadd, 1) := by decide +kernel
theorem dX11_begins_170 : decode cX11_begins 170 = .ok (.iaload, 1) := by decide +kernel
theorem dX11_begins_171 : decode cX11_begins 171 = .ok (.iastore, 1) := by decide +kernel
theorem dX11_begins_172 : decode cX11_begins 172 = .ok (.aload_n 0, 1) := by decide +kernel
theorem dX11_begins_173 : decode cX11_begins 173 = .ok (.getfield 134, 3) := by decide +kernel
theorem dX11_begins_176 : decode cX11_begins 176 = .ok (.bipush 77, 2) := by decide +kernel
theorem dX11_begins_178 : decode cX11_begins 178 = .ok (.iload_n 1, 1) := by decide +kernel
theorem dX11_begins_179 : decode cX11_begins 179 = .ok (.iadd, 1) := by decide +kernel
theorem dX11_begins_180 : decode cX11_begins 180 = .ok (.aload_n 0, 1) := by decide +kernel
theorem dX11_begins_181 : decode cX11_begins 181 = .ok (.getfield 82, 3) := by decide +kernel
theorem dX11_begins_184 : decode cX11_begins 184 = .ok (.bipush 12, 2) := by decide +kernel
theorem dX11_begins_186 : decode cX11_begins 186 = .ok (.aload_n 0, 1) := by decide +kernel
theorem dX11_begins_187 : decode cX11_begins 187 = .ok (.getfield 254, 3) := by decide +kernel
theorem dX11_begins_190 : decode cX11_begins 190 = .ok (.imul, 1) := by decide +kernel
theorem dX11_begins_191 : decode cX11_begins 191 = .ok (.iload_n 1, 1) := by decide +kernel
theorem dX11_begins_192 : decode cX11_begins 192 = .ok (.iadd, 1) := by decide +kernel
theorem dX11_begins_193 : decode cX11_begins 193 = .ok (.iaload, 1) := by decide +kernel
theorem dX11_begins_194 : decode cX11_begins 194 = .ok (.ineg, 1) := by decide +kernel
theorem dX11_begins_195 : decode cX11_begins 195 = .ok (.iastore, 1) := by decide +kernel
theorem dX11_begins_196 : decode cX11_begins 196 = .ok (.aload_n 0, 1) := by decide +kernel
theorem dX11_begins_197 : decode cX11_begins 197 = .ok (.getfield 134, 3) := by decide +kernel
theorem dX11_begins_200 : decode cX11_begins 200 = .ok (.bipush 97, 2) := by decide +kernel
theorem dX11_begins_202 : decode cX11_begins 202 = .ok (.iload_n 1, 1) := by decide +kernel
theorem dX11_begins_203 : decode cX11_begins 203 = .ok (.iadd, 1) := by decide +kernel
theorem dX11_begins_204 : decode cX11_begins 204 = .ok (.aload_n 0, 1) := by decide +kernel
theorem dX11_begins_205 : decode cX11_begins 205 = .ok (.getfield 85, 3) := by decide +kernel
theorem dX11_begins_208 : decode cX11_begins 208 = .ok (.bipush 12, 2) := by decide +kernel
theorem dX11_begins_210 : decode cX11_begins 210 = .ok (.aload_n 0, 1) := by decide +kernel
theorem dX11_begins_211 : decode cX11_begins 211 = .ok (.getfield 254, 3) := by decide +kernel
theorem dX11_begins_214 : decode cX11_begins 214 = .ok (.imul, 1) := by decide +kernel
theorem dX11_begins_215 : decode cX11_begins 215 = .ok (.iload_n 1, 1) := by decide +kernel
theorem dX11_begins_216 : decode cX11_begins 216 = .ok (.iadd, 1) := by decide +kernel
theorem dX11_begins_217 : decode cX11_begins 217 = .ok (.iaload, 1) := by decide +kernel
theorem dX11_begins_218 : decode cX11_begins 218 = .ok (.iastore, 1) := by decide +kernel
theorem dX11_begins_219 : decode cX11_begins 219 = .ok (.iinc 1 1, 3) := by decide +kernel
theorem dX11_begins_222 : decode cX11_begins 222 = .ok (.goto (-132), 3) := by decide +kernel
theorem dX11_begins_225 : decode cX11_begins 225 = .ok (.aload_n 0, 1) := by decide +kernel
theorem dX11_begins_226 : decode cX11_begins 226 = .ok (.aload_n 0, 1) := by decide +kernel
theorem dX11_begins_227 : decode cX11_begins 227 = .ok (.getfield 91, 3) := by decide +kernel
theorem dX11_begins_230 : decode cX11_begins 230 = .ok (.aload_n 0, 1) := by decide +kernel
theorem dX11_begins_231 : decode cX11_begins 231 = .ok (.getfield 254, 3) := by decide +kernel
theorem dX11_begins_234 : decode cX11_begins 234 = .ok (.iaload, 1) := by decide +kernel
theorem dX11_begins_235 : decode cX11_begins 235 = .ok (.putfield 344, 3) := by decide +kernel
theorem dX11_begins_238 : decode cX11_begins 238 = .ok (.aload_n 0, 1) := by decide +kernel
theorem dX11_begins_239 : decode cX11_begins 239 = .ok (.iconst 0, 1) := by decide +kernel
theorem dX11_begins_240 : decode cX11_begins 240 = .ok (.putfield 347, 3) := by decide +kernel
theorem dX11_begins_243 : decode cX11_begins 243 = .ok (.aload_n 0, 1) := by decide +kernel
theorem dX11_begins_244 : decode cX11_begins 244 = .ok (.iconst 0, 1) := by decide +kernel
theorem dX11_begins_245 : decode cX11_begins 245 = .ok (.putfield 350, 3) := by decide +kernel
theorem dX11_begins_248 : decode cX11_begins 248 = .ok (.return_, 1) := by decide +kernel
theorem dX11_keepsRow_0 : decode cX11_keepsRow 0 = .ok (.iconst 0, 1) := by decide +kernel
theorem dX11_keepsRow_1 : decode cX11_keepsRow 1 = .ok (.istore_n 1, 1) := by decide +kernel
theorem dX11_keepsRow_2 : decode cX11_keepsRow 2 = .ok (.iload_n 1, 1) := by decide +kernel
theorem dX11_keepsRow_3 : decode cX11_keepsRow 3 = .ok (.bipush 117, 2) := by decide +kernel
theorem dX11_keepsRow_5 : decode cX11_keepsRow 5 = .ok (.if_icmp .ge 21, 3) := by decide +kernel
theorem dX11_keepsRow_8 : decode cX11_keepsRow 8 = .ok (.aload_n 0, 1) := by decide +kernel
theorem dX11_keepsRow_9 : decode cX11_keepsRow 9 = .ok (.getfield 131, 3) := by decide +kernel
theorem dX11_keepsRow_12 : decode cX11_keepsRow 12 = .ok (.iload_n 1, 1) := by decide +kernel
theorem dX11_keepsRow_13 : decode cX11_keepsRow 13 = .ok (.aload_n 0, 1) := by decide +kernel
theorem dX11_keepsRow_14 : decode cX11_keepsRow 14 = .ok (.getfield 134, 3) := by decide +kernel
theorem dX11_keepsRow_17 : decode cX11_keepsRow 17 = .ok (.iload_n 1, 1) := by decide +kernel
theorem dX11_keepsRow_18 : decode cX11_keepsRow 18 = .ok (.iaload, 1) := by decide +kernel
theorem dX11_keepsRow_19 : decode cX11_keepsRow 19 = .ok (.iastore, 1) := by decide +kernel
theorem dX11_keepsRow_20 : decode cX11_keepsRow 20 = .ok (.iinc 1 1, 3) := by decide +kernel
theorem dX11_keepsRow_23 : decode cX11_keepsRow 23 = .ok (.goto (-21), 3) := by decide +kernel
theorem dX11_keepsRow_26 : decode cX11_keepsRow 26 = .ok (.return_, 1) := by decide +kernel
theorem dX11_copies_0 : decode cX11_copies 0 = .ok (.iconst 0, 1) := by decide +kernel
theorem dX11_copies_1 : decode cX11_copies 1 = .ok (.istore_n 1, 1) := by decide +kernel
theorem dX11_copies_2 : decode cX11_copies 2 = .ok (.iload_n 1, 1) := by decide +kernel
theorem dX11_copies_3 : decode cX11_copies 3 = .ok (.bipush 117, 2) := by decide +kernel
theorem dX11_copies_5 : decode cX11_copies 5 = .ok (.if_icmp .ge 21, 3) := by decide +kernel
theorem dX11_copies_8 : decode cX11_copies 8 = .ok (.aload_n 0, 1) := by decide +kernel
theorem dX11_copies_9 : decode cX11_copies 9 = .ok (.getfield 134, 3) := by decide +kernel
theorem dX11_copies_12 : decode cX11_copies 12 = .ok (.iload_n 1, 1) := by decide +kernel
theorem dX11_copies_13 : decode cX11_copies 13 = .ok (.aload_n 0, 1) := by decide +kernel
theorem dX11_copies_14 : decode cX11_copies 14 = .ok (.getfield 131, 3) := by decide +kernel
theorem dX11_copies_17 : decode cX11_copies 17 = .ok (.iload_n 1, 1) := by decide +kernel
theorem dX11_copies_18 : decode cX11_copies 18 = .ok (.iaload, 1) := by decide +kernel
theorem dX11_copies_19 : decode cX11_copies 19 = .ok (.iastore, 1) := by decide +kernel
theorem dX11_copies_20 : decode cX11_copies 20 = .ok (.iinc 1 1, 3) := by decide +kernel
theorem dX11_copies_23 : decode cX11_copies 23 = .ok (.goto (-21), 3) := by decide +kernel
theorem dX11_copies_26 : decode cX11_copies 26 = .ok (.aload_n 0, 1) := by decide +kernel
theorem dX11_copies_27 : decode cX11_copies 27 = .ok (.aload_n 0, 1) := by decide +kernel
theorem dX11_copies_28 : decode cX11_copies 28 = .ok (.getfield 91, 3) := by decide +kernel
theorem dX11_copies_31 : decode cX11_copies 31 = .ok (.aload_n 0, 1) := by decide +kernel
theorem dX11_copies_32 : decode cX11_copies 32 = .ok (.getfield 254, 3) := by decide +kernel
theorem dX11_copies_35 : decode cX11_copies 35 = .ok (.iaload, 1) := by decide +kernel
theorem dX11_copies_36 : decode cX11_copies 36 = .ok (.putfield 344, 3) := by decide +kernel
theorem dX11_copies_39 : decode cX11_copies 39 = .ok (.aload_n 0, 1) := by decide +kernel
theorem dX11_copies_40 : decode cX11_copies 40 = .ok (.iconst 0, 1) := by decide +kernel
theorem dX11_copies_41 : decode cX11_copies 41 = .ok (.putfield 347, 3) := by decide +kernel
theorem dX11_copies_44 : decode cX11_copies 44 = .ok (.aload_n 0, 1) := by decide +kernel
theorem dX11_copies_45 : decode cX11_copies 45 = .ok (.iconst 0, 1) := by decide +kernel
theorem dX11_copies_46 : decode cX11_copies 46 = .ok (.putfield 350, 3) := by decide +kernel
theorem dX11_copies_49 : decode cX11_copies 49 = .ok (.return_, 1) := by decide +kernel
theorem dX11_mixed_0 : decode cX11_mixed 0 = .ok (.iload_n 0, 1) := by decide +kernel
theorem dX11_mixed_1 : decode cX11_mixed 1 = .ok (.iload_n 1, 1) := by decide +kernel
theorem dX11_mixed_2 : decode cX11_mixed 2 = .ok (.ixor, 1) := by decide +kernel
theorem dX11_mixed_3 : decode cX11_mixed 3 = .ok (.ldc_w 353, 3) := by decide +kernel
theorem dX11_mixed_6 : decode cX11_mixed 6 = .ok (.imul, 1) := by decide +kernel
theorem dX11_mixed_7 : decode cX11_mixed 7 = .ok (.sipush 12345, 3) := by decide +kernel
theorem dX11_mixed_10 : decode cX11_mixed 10 = .ok (.iadd, 1) := by decide +kernel
theorem dX11_mixed_11 : decode cX11_mixed 11 = .ok (.istore_n 2, 1) := by decide +kernel
theorem dX11_mixed_12 : decode cX11_mixed 12 = .ok (.iload_n 2, 1) := by decide +kernel
theorem dX11_mixed_13 : decode cX11_mixed 13 = .ok (.iload_n 2, 1) := by decide +kernel
theorem dX11_mixed_14 : decode cX11_mixed 14 = .ok (.bipush 15, 2) := by decide +kernel
theorem dX11_mixed_16 : decode cX11_mixed 16 = .ok (.iushr, 1) := by decide +kernel
theorem dX11_mixed_17 : decode cX11_mixed 17 = .ok (.ixor, 1) := by decide +kernel
theorem dX11_mixed_18 : decode cX11_mixed 18 = .ok (.ireturn, 1) := by decide +kernel
theorem dX11_lotOf_0 : decode cX11_lotOf 0 = .ok (.aload_n 0, 1) := by decide +kernel
theorem dX11_lotOf_1 : decode cX11_lotOf 1 = .ok (.getfield 344, 3) := by decide +kernel
theorem dX11_lotOf_4 : decode cX11_lotOf 4 = .ok (.bipush 117, 2) := by decide +kernel
theorem dX11_lotOf_6 : decode cX11_lotOf 6 = .ok (.invokestatic 354, 3) := by decide +kernel
theorem dX11_lotOf_9 : decode cX11_lotOf 9 = .ok (.iload_n 1, 1) := by decide +kernel
theorem dX11_lotOf_10 : decode cX11_lotOf 10 = .ok (.invokestatic 354, 3) := by decide +kernel
theorem dX11_lotOf_13 : decode cX11_lotOf 13 = .ok (.iconst 1, 1) := by decide +kernel
theorem dX11_lotOf_14 : decode cX11_lotOf 14 = .ok (.iushr, 1) := by decide +kernel
theorem dX11_lotOf_15 : decode cX11_lotOf 15 = .ok (.bipush 100, 2) := by decide +kernel
theorem dX11_lotOf_17 : decode cX11_lotOf 17 = .ok (.irem, 1) := by decide +kernel
theorem dX11_lotOf_18 : decode cX11_lotOf 18 = .ok (.ireturn, 1) := by decide +kernel
theorem dX11_looks_0 : decode cX11_looks 0 = .ok (.iconst 0, 1) := by decide +kernel
theorem dX11_looks_1 : decode cX11_looks 1 = .ok (.istore_n 1, 1) := by decide +kernel
theorem dX11_looks_2 : decode cX11_looks 2 = .ok (.iload_n 1, 1) := by decide +kernel
theorem dX11_looks_3 : decode cX11_looks 3 = .ok (.bipush 9, 2) := by decide +kernel
theorem dX11_looks_5 : decode cX11_looks 5 = .ok (.if_icmp .ge 16, 3) := by decide +kernel
theorem dX11_looks_8 : decode cX11_looks 8 = .ok (.aload_n 0, 1) := by decide +kernel
theorem dX11_looks_9 : decode cX11_looks 9 = .ok (.getfield 125, 3) := by decide +kernel
theorem dX11_looks_12 : decode cX11_looks 12 = .ok (.iload_n 1, 1) := by decide +kernel
theorem dX11_looks_13 : decode cX11_looks 13 = .ok (.iconst 0, 1) := by decide +kernel
theorem dX11_looks_14 : decode cX11_looks 14 = .ok (.iastore, 1) := by decide +kernel
theorem dX11_looks_15 : decode cX11_looks 15 = .ok (.iinc 1 1, 3) := by decide +kernel
theorem dX11_looks_18 : decode cX11_looks 18 = .ok (.goto (-16), 3) := by decide +kernel
theorem dX11_looks_21 : decode cX11_looks 21 = .ok (.aload_n 0, 1) := by decide +kernel
theorem dX11_looks_22 : decode cX11_looks 22 = .ok (.getfield 125, 3) := by decide +kernel
theorem dX11_looks_25 : decode cX11_looks 25 = .ok (.iconst 3, 1) := by decide +kernel
theorem dX11_looks_26 : decode cX11_looks 26 = .ok (.aload_n 0, 1) := by decide +kernel
theorem dX11_looks_27 : decode cX11_looks 27 = .ok (.getfield 134, 3) := by decide +kernel
theorem dX11_looks_30 : decode cX11_looks 30 = .ok (.bipush 14, 2) := by decide +kernel
theorem dX11_looks_32 : decode cX11_looks 32 = .ok (.iaload, 1) := by decide +kernel
theorem dX11_looks_33 : decode cX11_looks 33 = .ok (.iastore, 1) := by decide +kernel
theorem dX11_looks_34 : decode cX11_looks 34 = .ok (.return_, 1) := by decide +kernel
theorem dX11_lawTells_0 : decode cX11_lawTells 0 = .ok (.iconst 4, 1) := by decide +kernel
theorem dX11_lawTells_1 : decode cX11_lawTells 1 = .ok (.aload_n 0, 1) := by decide +kernel
theorem dX11_lawTells_2 : decode cX11_lawTells 2 = .ok (.getfield 254, 3) := by decide +kernel
theorem dX11_lawTells_5 : decode cX11_lawTells 5 = .ok (.imul, 1) := by decide +kernel
theorem dX11_lawTells_6 : decode cX11_lawTells 6 = .ok (.iload_n 1, 1) := by decide +kernel
theorem dX11_lawTells_7 : decode cX11_lawTells 7 = .ok (.iadd, 1) := by decide +kernel
theorem dX11_lawTells_8 : decode cX11_lawTells 8 = .ok (.istore_n 3, 1) := by decide +kernel
theorem dX11_lawTells_9 : decode cX11_lawTells 9 = .ok (.aload_n 0, 1) := by decide +kernel
theorem dX11_lawTells_10 : decode cX11_lawTells 10 = .ok (.getfield 94, 3) := by decide +kernel
theorem dX11_lawTells_13 : decode cX11_lawTells 13 = .ok (.iload_n 3, 1) := by decide +kernel
theorem dX11_lawTells_14 : decode cX11_lawTells 14 = .ok (.iaload, 1) := by decide +kernel
theorem dX11_lawTells_15 : decode cX11_lawTells 15 = .ok (.aload_n 0, 1) := by decide +kernel
theorem dX11_lawTells_16 : decode cX11_lawTells 16 = .ok (.getfield 97, 3) := by decide +kernel
theorem dX11_lawTells_19 : decode cX11_lawTells 19 = .ok (.iload_n 3, 1) := by decide +kernel
theorem dX11_lawTells_20 : decode cX11_lawTells 20 = .ok (.iaload, 1) := by decide +kernel
theorem dX11_lawTells_21 : decode cX11_lawTells 21 = .ok (.if_icmp .ne 5, 3) := by decide +kernel
theorem dX11_lawTells_24 : decode cX11_lawTells 24 = .ok (.iload_n 2, 1) := by decide +kernel
theorem dX11_lawTells_25 : decode cX11_lawTells 25 = .ok (.ireturn, 1) := by decide +kernel
theorem dX11_lawTells_26 : decode cX11_lawTells 26 = .ok (.aload_n 0, 1) := by decide +kernel
theorem dX11_lawTells_27 : decode cX11_lawTells 27 = .ok (.iconst 0, 1) := by decide +kernel
theorem dX11_lawTells_28 : decode cX11_lawTells 28 = .ok (.putfield 336, 3) := by decide +kernel
theorem dX11_lawTells_31 : decode cX11_lawTells 31 = .ok (.aload_n 0, 1) := by decide +kernel
theorem dX11_lawTells_32 : decode cX11_lawTells 32 = .ok (.getfield 94, 3) := by decide +kernel
theorem dX11_lawTells_35 : decode cX11_lawTells 35 = .ok (.iload_n 3, 1) := by decide +kernel
theorem dX11_lawTells_36 : decode cX11_lawTells 36 = .ok (.iaload, 1) := by decide +kernel
theorem dX11_lawTells_37 : decode cX11_lawTells 37 = .ok (.istore 4, 2) := by decide +kernel
theorem dX11_lawTells_39 : decode cX11_lawTells 39 = .ok (.iload 4, 2) := by decide +kernel
theorem dX11_lawTells_41 : decode cX11_lawTells 41 = .ok (.aload_n 0, 1) := by decide +kernel
theorem dX11_lawTells_42 : decode cX11_lawTells 42 = .ok (.getfield 97, 3) := by decide +kernel
theorem dX11_lawTells_45 : decode cX11_lawTells 45 = .ok (.iload_n 3, 1) := by decide +kernel
theorem dX11_lawTells_46 : decode cX11_lawTells 46 = .ok (.iaload, 1) := by decide +kernel
theorem dX11_lawTells_47 : decode cX11_lawTells 47 = .ok (.if_icmp .ge 112, 3) := by decide +kernel
theorem dX11_lawTells_50 : decode cX11_lawTells 50 = .ok (.aload_n 0, 1) := by decide +kernel
theorem dX11_lawTells_51 : decode cX11_lawTells 51 = .ok (.getfield 100, 3) := by decide +kernel
theorem dX11_lawTells_54 : decode cX11_lawTells 54 = .ok (.iload 4, 2) := by decide +kernel
theorem dX11_lawTells_56 : decode cX11_lawTells 56 = .ok (.baload, 1) := by decide +kernel
theorem dX11_lawTells_57 : decode cX11_lawTells 57 = .ok (.ifCond .eq 62, 3) := by decide +kernel
theorem dX11_lawTells_60 : decode cX11_lawTells 60 = .ok (.aload_n 0, 1) := by decide +kernel
theorem dX11_lawTells_61 : decode cX11_lawTells 61 = .ok (.aload_n 0, 1) := by decide +kernel
theorem dX11_lawTells_62 : decode cX11_lawTells 62 = .ok (.getfield 104, 3) := by decide +kernel
theorem dX11_lawTells_65 : decode cX11_lawTells 65 = .ok (.iload 4, 2) := by decide +kernel
theorem dX11_lawTells_67 : decode cX11_lawTells 67 = .ok (.iaload, 1) := by decide +kernel
theorem dX11_lawTells_68 : decode cX11_lawTells 68 = .ok (.aload_n 0, 1) := by decide +kernel
theorem dX11_lawTells_69 : decode cX11_lawTells 69 = .ok (.getfield 107, 3) := by decide +kernel
theorem dX11_lawTells_72 : decode cX11_lawTells 72 = .ok (.iload 4, 2) := by decide +kernel
theorem dX11_lawTells_74 : decode cX11_lawTells 74 = .ok (.iaload, 1) := by decide +kernel
theorem dX11_lawTells_75 : decode cX11_lawTells 75 = .ok (.invokevirtual 357, 3) := by decide +kernel
theorem dX11_lawTells_78 : decode cX11_lawTells 78 = .ok (.istore 5, 2) := by decide +kernel
theorem dX11_lawTells_80 : decode cX11_lawTells 80 = .ok (.aload_n 0, 1) := by decide +kernel
theorem dX11_lawTells_81 : decode cX11_lawTells 81 = .ok (.aload_n 0, 1) := by decide +kernel
theorem dX11_lawTells_82 : decode cX11_lawTells 82 = .ok (.getfield 107, 3) := by decide +kernel
theorem dX11_lawTells_85 : decode cX11_lawTells 85 = .ok (.iload 4, 2) := by decide +kernel
theorem dX11_lawTells_87 : decode cX11_lawTells 87 = .ok (.iaload, 1) := by decide +kernel
theorem dX11_lawTells_88 : decode cX11_lawTells 88 = .ok (.aload_n 0, 1) := by decide +kernel
theorem dX11_lawTells_89 : decode cX11_lawTells 89 = .ok (.getfield 110, 3) := by decide +kernel
theorem dX11_lawTells_92 : decode cX11_lawTells 92 = .ok (.iload 4, 2) := by decide +kernel
theorem dX11_lawTells_94 : decode cX11_lawTells 94 = .ok (.iaload, 1) := by decide +kernel
theorem dX11_lawTells_95 : decode cX11_lawTells 95 = .ok (.invokevirtual 357, 3) := by decide +kernel
theorem dX11_lawTells_98 : decode cX11_lawTells 98 = .ok (.istore 6, 2) := by decide +kernel
theorem dX11_lawTells_100 : decode cX11_lawTells 100 = .ok (.aload_n 0, 1) := by decide +kernel
theorem dX11_lawTells_101 : decode cX11_lawTells 101 = .ok (.getfield 336, 3) := by decide +kernel
theorem dX11_lawTells_104 : decode cX11_lawTells 104 = .ok (.ifCond .eq 5, 3) := by decide +kernel
theorem dX11_lawTells_107 : decode cX11_lawTells 107 = .ok (.iconst 0, 1) := by decide +kernel
theorem dX11_lawTells_108 : decode cX11_lawTells 108 = .ok (.ireturn, 1) := by decide +kernel
theorem dX11_lawTells_109 : decode cX11_lawTells 109 = .ok (.iload 5, 2) := by decide +kernel
theorem dX11_lawTells_111 : decode cX11_lawTells 111 = .ok (.iload 6, 2) := by decide +kernel
theorem dX11_lawTells_113 : decode cX11_lawTells 113 = .ok (.if_icmp .lt 6, 3) := by decide +kernel
theorem dX11_lawTells_116 : decode cX11_lawTells 116 = .ok (.goto 37, 3) := by decide +kernel
theorem dX11_lawTells_119 : decode cX11_lawTells 119 = .ok (.aload_n 0, 1) := by decide +kernel
theorem dX11_lawTells_120 : decode cX11_lawTells 120 = .ok (.aload_n 0, 1) := by decide +kernel
theorem dX11_lawTells_121 : decode cX11_lawTells 121 = .ok (.getfield 110, 3) := by decide +kernel
theorem dX11_lawTells_124 : decode cX11_lawTells 124 = .ok (.iload 4, 2) := by decide +kernel
theorem dX11_lawTells_126 : decode cX11_lawTells 126 = .ok (.iaload, 1) := by decide +kernel
theorem dX11_lawTells_127 : decode cX11_lawTells 127 = .ok (.aload_n 0, 1) := by decide +kernel
theorem dX11_lawTells_128 : decode cX11_lawTells 128 = .ok (.getfield 113, 3) := by decide +kernel
theorem dX11_lawTells_131 : decode cX11_lawTells 131 = .ok (.iload 4, 2) := by decide +kernel
theorem dX11_lawTells_133 : decode cX11_lawTells 133 = .ok (.iaload, 1) := by decide +kernel
theorem dX11_lawTells_134 : decode cX11_lawTells 134 = .ok (.invokevirtual 357, 3) := by decide +kernel
theorem dX11_lawTells_137 : decode cX11_lawTells 137 = .ok (.istore 5, 2) := by decide +kernel
theorem dX11_lawTells_139 : decode cX11_lawTells 139 = .ok (.aload_n 0, 1) := by decide +kernel
theorem dX11_lawTells_140 : decode cX11_lawTells 140 = .ok (.getfield 336, 3) := by decide +kernel
theorem dX11_lawTells_143 : decode cX11_lawTells 143 = .ok (.ifCond .eq 7, 3) := by decide +kernel
theorem dX11_lawTells_146 : decode cX11_lawTells 146 = .ok (.iconst 0, 1) := by decide +kernel
theorem dX11_lawTells_147 : decode cX11_lawTells 147 = .ok (.goto 5, 3) := by decide +kernel
theorem dX11_lawTells_150 : decode cX11_lawTells 150 = .ok (.iload 5, 2) := by decide +kernel
theorem dX11_lawTells_152 : decode cX11_lawTells 152 = .ok (.ireturn, 1) := by decide +kernel
theorem dX11_lawTells_153 : decode cX11_lawTells 153 = .ok (.iinc 4 1, 3) := by decide +kernel
theorem dX11_lawTells_156 : decode cX11_lawTells 156 = .ok (.goto (-117), 3) := by decide +kernel
theorem dX11_lawTells_159 : decode cX11_lawTells 159 = .ok (.iconst 0, 1) := by decide +kernel
theorem dX11_lawTells_160 : decode cX11_lawTells 160 = .ok (.ireturn, 1) := by decide +kernel
theorem dX11_looksAt_0 : decode cX11_looksAt 0 = .ok (.aload_n 0, 1) := by decide +kernel
theorem dX11_looksAt_1 : decode cX11_looksAt 1 = .ok (.invokevirtual 360, 3) := by decide +kernel
theorem dX11_looksAt_4 : decode cX11_looksAt 4 = .ok (.aload_n 0, 1) := by decide +kernel
theorem dX11_looksAt_5 : decode cX11_looksAt 5 = .ok (.getfield 125, 3) := by decide +kernel
theorem dX11_looksAt_8 : decode cX11_looksAt 8 = .ok (.iconst 0, 1) := by decide +kernel
theorem dX11_looksAt_9 : decode cX11_looksAt 9 = .ok (.aload_n 0, 1) := by decide +kernel
theorem dX11_looksAt_10 : decode cX11_looksAt 10 = .ok (.getfield 134, 3) := by decide +kernel
theorem dX11_looksAt_13 : decode cX11_looksAt 13 = .ok (.iload_n 1, 1) := by decide +kernel
theorem dX11_looksAt_14 : decode cX11_looksAt 14 = .ok (.iaload, 1) := by decide +kernel
theorem dX11_looksAt_15 : decode cX11_looksAt 15 = .ok (.iastore, 1) := by decide +kernel
theorem dX11_looksAt_16 : decode cX11_looksAt 16 = .ok (.aload_n 0, 1) := by decide +kernel
theorem dX11_looksAt_17 : decode cX11_looksAt 17 = .ok (.getfield 125, 3) := by decide +kernel
theorem dX11_looksAt_20 : decode cX11_looksAt 20 = .ok (.iconst 1, 1) := by decide +kernel
theorem dX11_looksAt_21 : decode cX11_looksAt 21 = .ok (.aload_n 0, 1) := by decide +kernel
theorem dX11_looksAt_22 : decode cX11_looksAt 22 = .ok (.getfield 67, 3) := by decide +kernel
theorem dX11_looksAt_25 : decode cX11_looksAt 25 = .ok (.bipush 7, 2) := by decide +kernel
theorem dX11_looksAt_27 : decode cX11_looksAt 27 = .ok (.aload_n 0, 1) := by decide +kernel
theorem dX11_looksAt_28 : decode cX11_looksAt 28 = .ok (.getfield 254, 3) := by decide +kernel
theorem dX11_looksAt_31 : decode cX11_looksAt 31 = .ok (.imul, 1) := by decide +kernel
theorem dX11_looksAt_32 : decode cX11_looksAt 32 = .ok (.iload_n 1, 1) := by decide +kernel
theorem dX11_looksAt_33 : decode cX11_looksAt 33 = .ok (.iadd, 1) := by decide +kernel
theorem dX11_looksAt_34 : decode cX11_looksAt 34 = .ok (.iaload, 1) := by decide +kernel
theorem dX11_looksAt_35 : decode cX11_looksAt 35 = .ok (.iastore, 1) := by decide +kernel
theorem dX11_looksAt_36 : decode cX11_looksAt 36 = .ok (.aload_n 0, 1) := by decide +kernel
theorem dX11_looksAt_37 : decode cX11_looksAt 37 = .ok (.getfield 125, 3) := by decide +kernel
theorem dX11_looksAt_40 : decode cX11_looksAt 40 = .ok (.iconst 4, 1) := by decide +kernel
theorem dX11_looksAt_41 : decode cX11_looksAt 41 = .ok (.iload_n 1, 1) := by decide +kernel
theorem dX11_looksAt_42 : decode cX11_looksAt 42 = .ok (.iastore, 1) := by decide +kernel
theorem dX11_looksAt_43 : decode cX11_looksAt 43 = .ok (.return_, 1) := by decide +kernel
theorem dX11_doesSwear_0 : decode cX11_doesSwear 0 = .ok (.aload_n 0, 1) := by decide +kernel
theorem dX11_doesSwear_1 : decode cX11_doesSwear 1 = .ok (.getfield 134, 3) := by decide +kernel
theorem dX11_doesSwear_4 : decode cX11_doesSwear 4 = .ok (.bipush 7, 2) := by decide +kernel
theorem dX11_doesSwear_6 : decode cX11_doesSwear 6 = .ok (.iload_n 1, 1) := by decide +kernel
theorem dX11_doesSwear_7 : decode cX11_doesSwear 7 = .ok (.iadd, 1) := by decide +kernel
theorem dX11_doesSwear_8 : decode cX11_doesSwear 8 = .ok (.iaload, 1) := by decide +kernel
theorem dX11_doesSwear_9 : decode cX11_doesSwear 9 = .ok (.ifCond .eq 19, 3) := by decide +kernel
theorem dX11_doesSwear_12 : decode cX11_doesSwear 12 = .ok (.aload_n 0, 1) := by decide +kernel
theorem dX11_doesSwear_13 : decode cX11_doesSwear 13 = .ok (.getfield 134, 3) := by decide +kernel
theorem dX11_doesSwear_16 : decode cX11_doesSwear 16 = .ok (.bipush 97, 2) := by decide +kernel
theorem dX11_doesSwear_18 : decode cX11_doesSwear 18 = .ok (.iload_n 2, 1) := by decide +kernel
theorem dX11_doesSwear_19 : decode cX11_doesSwear 19 = .ok (.iadd, 1) := by decide +kernel
theorem dX11_doesSwear_20 : decode cX11_doesSwear 20 = .ok (.iaload, 1) := by decide +kernel
theorem dX11_doesSwear_21 : decode cX11_doesSwear 21 = .ok (.iload_n 1, 1) := by decide +kernel
theorem dX11_doesSwear_22 : decode cX11_doesSwear 22 = .ok (.ishr, 1) := by decide +kernel
theorem dX11_doesSwear_23 : decode cX11_doesSwear 23 = .ok (.iconst 1, 1) := by decide +kernel
theorem dX11_doesSwear_24 : decode cX11_doesSwear 24 = .ok (.iand, 1) := by decide +kernel
theorem dX11_doesSwear_25 : decode cX11_doesSwear 25 = .ok (.ifCond .ne 5, 3) := by decide +kernel
theorem dX11_doesSwear_28 : decode cX11_doesSwear 28 = .ok (.iconst 0, 1) := by decide +kernel
theorem dX11_doesSwear_29 : decode cX11_doesSwear 29 = .ok (.ireturn, 1) := by decide +kernel
theorem dX11_doesSwear_30 : decode cX11_doesSwear 30 = .ok (.aload_n 0, 1) := by decide +kernel
theorem dX11_doesSwear_31 : decode cX11_doesSwear 31 = .ok (.iload_n 1, 1) := by decide +kernel
theorem dX11_doesSwear_32 : decode cX11_doesSwear 32 = .ok (.invokevirtual 363, 3) := by decide +kernel
theorem dX11_doesSwear_35 : decode cX11_doesSwear 35 = .ok (.aload_n 0, 1) := by decide +kernel
theorem dX11_doesSwear_36 : decode cX11_doesSwear 36 = .ok (.getfield 125, 3) := by decide +kernel
theorem dX11_doesSwear_39 : decode cX11_doesSwear 39 = .ok (.iconst 2, 1) := by decide +kernel
theorem dX11_doesSwear_40 : decode cX11_doesSwear 40 = .ok (.aload_n 0, 1) := by decide +kernel
theorem dX11_doesSwear_41 : decode cX11_doesSwear 41 = .ok (.getfield 134, 3) := by decide +kernel
theorem dX11_doesSwear_44 : decode cX11_doesSwear 44 = .ok (.bipush 14, 2) := by decide +kernel
theorem dX11_doesSwear_46 : decode cX11_doesSwear 46 = .ok (.iaload, 1) := by decide +kernel
theorem dX11_doesSwear_47 : decode cX11_doesSwear 47 = .ok (.aload_n 0, 1) := by decide +kernel
theorem dX11_doesSwear_48 : decode cX11_doesSwear 48 = .ok (.getfield 134, 3) := by decide +kernel
theorem dX11_doesSwear_51 : decode cX11_doesSwear 51 = .ok (.bipush 77, 2) := by decide +kernel
theorem dX11_doesSwear_53 : decode cX11_doesSwear 53 = .ok (.iload_n 2, 1) := by decide +kernel
theorem dX11_doesSwear_54 : decode cX11_doesSwear 54 = .ok (.iadd, 1) := by decide +kernel
theorem dX11_doesSwear_55 : decode cX11_doesSwear 55 = .ok (.iaload, 1) := by decide +kernel
theorem dX11_doesSwear_56 : decode cX11_doesSwear 56 = .ok (.isub, 1) := by decide +kernel
theorem dX11_doesSwear_57 : decode cX11_doesSwear 57 = .ok (.iastore, 1) := by decide +kernel
theorem dX11_doesSwear_58 : decode cX11_doesSwear 58 = .ok (.aload_n 0, 1) := by decide +kernel
theorem dX11_doesSwear_59 : decode cX11_doesSwear 59 = .ok (.getfield 125, 3) := by decide +kernel
theorem dX11_doesSwear_62 : decode cX11_doesSwear 62 = .ok (.iconst 5, 1) := by decide +kernel
theorem dX11_doesSwear_63 : decode cX11_doesSwear 63 = .ok (.aload_n 0, 1) := by decide +kernel
theorem dX11_doesSwear_64 : decode cX11_doesSwear 64 = .ok (.getfield 134, 3) := by decide +kernel
theorem dX11_doesSwear_67 : decode cX11_doesSwear 67 = .ok (.bipush 97, 2) := by decide +kernel
theorem dX11_doesSwear_69 : decode cX11_doesSwear 69 = .ok (.iload_n 2, 1) := by decide +kernel
theorem dX11_doesSwear_70 : decode cX11_doesSwear 70 = .ok (.iadd, 1) := by decide +kernel
theorem dX11_doesSwear_71 : decode cX11_doesSwear 71 = .ok (.iaload, 1) := by decide +kernel
theorem dX11_doesSwear_72 : decode cX11_doesSwear 72 = .ok (.invokestatic 366, 3) := by decide +kernel
theorem dX11_doesSwear_75 : decode cX11_doesSwear 75 = .ok (.iastore, 1) := by decide +kernel
theorem dX11_doesSwear_76 : decode cX11_doesSwear 76 = .ok (.aload_n 0, 1) := by decide +kernel
theorem dX11_doesSwear_77 : decode cX11_doesSwear 77 = .ok (.iconst 0, 1) := by decide +kernel
theorem dX11_doesSwear_78 : decode cX11_doesSwear 78 = .ok (.aload_n 0, 1) := by decide +kernel
theorem dX11_doesSwear_79 : decode cX11_doesSwear 79 = .ok (.getfield 125, 3) := by decide +kernel
theorem dX11_doesSwear_82 : decode cX11_doesSwear 82 = .ok (.iconst 1, 1) := by decide +kernel
theorem dX11_doesSwear_83 : decode cX11_doesSwear 83 = .ok (.iaload, 1) := by decide +kernel
theorem dX11_doesSwear_84 : decode cX11_doesSwear 84 = .ok (.aload_n 0, 1) := by decide +kernel
theorem dX11_doesSwear_85 : decode cX11_doesSwear 85 = .ok (.getfield 125, 3) := by decide +kernel
theorem dX11_doesSwear_88 : decode cX11_doesSwear 88 = .ok (.iconst 2, 1) := by decide +kernel
theorem dX11_doesSwear_89 : decode cX11_doesSwear 89 = .ok (.iaload, 1) := by decide +kernel
theorem dX11_doesSwear_90 : decode cX11_doesSwear 90 = .ok (.isub, 1) := by decide +kernel
theorem dX11_doesSwear_91 : decode cX11_doesSwear 91 = .ok (.invokevirtual 369, 3) := by decide +kernel
theorem dX11_doesSwear_94 : decode cX11_doesSwear 94 = .ok (.ifCond .le 7, 3) := by decide +kernel
theorem dX11_doesSwear_97 : decode cX11_doesSwear 97 = .ok (.iconst 1, 1) := by decide +kernel
theorem dX11_doesSwear_98 : decode cX11_doesSwear 98 = .ok (.goto 4, 3) := by decide +kernel
theorem dX11_doesSwear_101 : decode cX11_doesSwear 101 = .ok (.iconst 0, 1) := by decide +kernel
theorem dX11_doesSwear_102 : decode cX11_doesSwear 102 = .ok (.ireturn, 1) := by decide +kernel
theorem dX11_diesNow_0 : decode cX11_diesNow 0 = .ok (.aload_n 0, 1) := by decide +kernel
theorem dX11_diesNow_1 : decode cX11_diesNow 1 = .ok (.iload_n 1, 1) := by decide +kernel
theorem dX11_diesNow_2 : decode cX11_diesNow 2 = .ok (.invokevirtual 363, 3) := by decide +kernel
theorem dX11_diesNow_5 : decode cX11_diesNow 5 = .ok (.aload_n 0, 1) := by decide +kernel
theorem dX11_diesNow_6 : decode cX11_diesNow 6 = .ok (.iconst 1, 1) := by decide +kernel
theorem dX11_diesNow_7 : decode cX11_diesNow 7 = .ok (.iconst 0, 1) := by decide +kernel
theorem dX11_diesNow_8 : decode cX11_diesNow 8 = .ok (.invokevirtual 369, 3) := by decide +kernel
theorem dX11_diesNow_11 : decode cX11_diesNow 11 = .ok (.iconst 0, 1) := by decide +kernel
theorem dX11_diesNow_12 : decode cX11_diesNow 12 = .ok (.bipush 100, 2) := by decide +kernel
theorem dX11_diesNow_14 : decode cX11_diesNow 14 = .ok (.invokestatic 372, 3) := by decide +kernel
theorem dX11_diesNow_17 : decode cX11_diesNow 17 = .ok (.ireturn, 1) := by decide +kernel
theorem dX11_off_0 : decode cX11_off 0 = .ok (.iload_n 0, 1) := by decide +kernel
theorem dX11_off_1 : decode cX11_off 1 = .ok (.iload_n 1, 1) := by decide +kernel
theorem dX11_off_2 : decode cX11_off 2 = .ok (.if_icmp .ge 9, 3) := by decide +kernel
theorem dX11_off_5 : decode cX11_off 5 = .ok (.iload_n 1, 1) := by decide +kernel
theorem dX11_off_6 : decode cX11_off 6 = .ok (.iload_n 0, 1) := by decide +kernel
theorem dX11_off_7 : decode cX11_off 7 = .ok (.isub, 1) := by decide +kernel
theorem dX11_off_8 : decode cX11_off 8 = .ok (.goto 6, 3) := by decide +kernel
theorem dX11_off_11 : decode cX11_off 11 = .ok (.iload_n 0, 1) := by decide +kernel
theorem dX11_off_12 : decode cX11_off 12 = .ok (.iload_n 1, 1) := by decide +kernel
theorem dX11_off_13 : decode cX11_off 13 = .ok (.isub, 1) := by decide +kernel
theorem dX11_off_14 : decode cX11_off 14 = .ok (.ireturn, 1) := by decide +kernel
theorem dX11_walksTo_0 : decode cX11_walksTo 0 = .ok (.bipush 7, 2) := by decide +kernel
theorem dX11_walksTo_2 : decode cX11_walksTo 2 = .ok (.aload_n 0, 1) := by decide +kernel
theorem dX11_walksTo_3 : decode cX11_walksTo 3 = .ok (.getfield 254, 3) := by decide +kernel
theorem dX11_walksTo_6 : decode cX11_walksTo 6 = .ok (.imul, 1) := by decide +kernel
theorem dX11_walksTo_7 : decode cX11_walksTo 7 = .ok (.istore_n 3, 1) := by decide +kernel
theorem dX11_walksTo_8 : decode cX11_walksTo 8 = .ok (.aload_n 0, 1) := by decide +kernel
theorem dX11_walksTo_9 : decode cX11_walksTo 9 = .ok (.invokevirtual 360, 3) := by decide +kernel
theorem dX11_walksTo_12 : decode cX11_walksTo 12 = .ok (.aload_n 0, 1) := by decide +kernel
theorem dX11_walksTo_13 : decode cX11_walksTo 13 = .ok (.getfield 125, 3) := by decide +kernel
theorem dX11_walksTo_16 : decode cX11_walksTo 16 = .ok (.bipush 6, 2) := by decide +kernel
theorem dX11_walksTo_18 : decode cX11_walksTo 18 = .ok (.aload_n 0, 1) := by decide +kernel
theorem dX11_walksTo_19 : decode cX11_walksTo 19 = .ok (.getfield 52, 3) := by decide +kernel
theorem dX11_walksTo_22 : decode cX11_walksTo 22 = .ok (.iload_n 3, 1) := by decide +kernel
theorem dX11_walksTo_23 : decode cX11_walksTo 23 = .ok (.iload_n 1, 1) := by decide +kernel
theorem dX11_walksTo_24 : decode cX11_walksTo 24 = .ok (.iadd, 1) := by decide +kernel
theorem dX11_walksTo_25 : decode cX11_walksTo 25 = .ok (.iaload, 1) := by decide +kernel
theorem dX11_walksTo_26 : decode cX11_walksTo 26 = .ok (.aload_n 0, 1) := by decide +kernel
theorem dX11_walksTo_27 : decode cX11_walksTo 27 = .ok (.getfield 52, 3) := by decide +kernel
theorem dX11_walksTo_30 : decode cX11_walksTo 30 = .ok (.iload_n 3, 1) := by decide +kernel
theorem dX11_walksTo_31 : decode cX11_walksTo 31 = .ok (.iload_n 2, 1) := by decide +kernel
theorem dX11_walksTo_32 : decode cX11_walksTo 32 = .ok (.iadd, 1) := by decide +kernel
theorem dX11_walksTo_33 : decode cX11_walksTo 33 = .ok (.iaload, 1) := by decide +kernel
theorem dX11_walksTo_34 : decode cX11_walksTo 34 = .ok (.invokestatic 375, 3) := by decide +kernel
theorem dX11_walksTo_37 : decode cX11_walksTo 37 = .ok (.aload_n 0, 1) := by decide +kernel
theorem dX11_walksTo_38 : decode cX11_walksTo 38 = .ok (.getfield 55, 3) := by decide +kernel
theorem dX11_walksTo_41 : decode cX11_walksTo 41 = .ok (.iload_n 3, 1) := by decide +kernel
theorem dX11_walksTo_42 : decode cX11_walksTo 42 = .ok (.iload_n 1, 1) := by decide +kernel
theorem dX11_walksTo_43 : decode cX11_walksTo 43 = .ok (.iadd, 1) := by decide +kernel
theorem dX11_walksTo_44 : decode cX11_walksTo 44 = .ok (.iaload, 1) := by decide +kernel
theorem dX11_walksTo_45 : decode cX11_walksTo 45 = .ok (.aload_n 0, 1) := by decide +kernel
theorem dX11_walksTo_46 : decode cX11_walksTo 46 = .ok (.getfield 55, 3) := by decide +kernel
theorem dX11_walksTo_49 : decode cX11_walksTo 49 = .ok (.iload_n 3, 1) := by decide +kernel
theorem dX11_walksTo_50 : decode cX11_walksTo 50 = .ok (.iload_n 2, 1) := by decide +kernel
theorem dX11_walksTo_51 : decode cX11_walksTo 51 = .ok (.iadd, 1) := by decide +kernel
theorem dX11_walksTo_52 : decode cX11_walksTo 52 = .ok (.iaload, 1) := by decide +kernel
theorem dX11_walksTo_53 : decode cX11_walksTo 53 = .ok (.invokestatic 375, 3) := by decide +kernel
theorem dX11_walksTo_56 : decode cX11_walksTo 56 = .ok (.iadd, 1) := by decide +kernel
theorem dX11_walksTo_57 : decode cX11_walksTo 57 = .ok (.iastore, 1) := by decide +kernel
theorem dX11_walksTo_58 : decode cX11_walksTo 58 = .ok (.aload_n 0, 1) := by decide +kernel
theorem dX11_walksTo_59 : decode cX11_walksTo 59 = .ok (.getfield 125, 3) := by decide +kernel
theorem dX11_walksTo_62 : decode cX11_walksTo 62 = .ok (.bipush 7, 2) := by decide +kernel
theorem dX11_walksTo_64 : decode cX11_walksTo 64 = .ok (.aload_n 0, 1) := by decide +kernel
theorem dX11_walksTo_65 : decode cX11_walksTo 65 = .ok (.getfield 52, 3) := by decide +kernel
theorem dX11_walksTo_68 : decode cX11_walksTo 68 = .ok (.iload_n 3, 1) := by decide +kernel
theorem dX11_walksTo_69 : decode cX11_walksTo 69 = .ok (.iload_n 2, 1) := by decide +kernel
theorem dX11_walksTo_70 : decode cX11_walksTo 70 = .ok (.iadd, 1) := by decide +kernel
theorem dX11_walksTo_71 : decode cX11_walksTo 71 = .ok (.iaload, 1) := by decide +kernel
theorem dX11_walksTo_72 : decode cX11_walksTo 72 = .ok (.iastore, 1) := by decide +kernel
theorem dX11_walksTo_73 : decode cX11_walksTo 73 = .ok (.aload_n 0, 1) := by decide +kernel
theorem dX11_walksTo_74 : decode cX11_walksTo 74 = .ok (.getfield 125, 3) := by decide +kernel
theorem dX11_walksTo_77 : decode cX11_walksTo 77 = .ok (.bipush 8, 2) := by decide +kernel
theorem dX11_walksTo_79 : decode cX11_walksTo 79 = .ok (.aload_n 0, 1) := by decide +kernel
theorem dX11_walksTo_80 : decode cX11_walksTo 80 = .ok (.getfield 55, 3) := by decide +kernel
theorem dX11_walksTo_83 : decode cX11_walksTo 83 = .ok (.iload_n 3, 1) := by decide +kernel
theorem dX11_walksTo_84 : decode cX11_walksTo 84 = .ok (.iload_n 2, 1) := by decide +kernel
theorem dX11_walksTo_85 : decode cX11_walksTo 85 = .ok (.iadd, 1) := by decide +kernel
theorem dX11_walksTo_86 : decode cX11_walksTo 86 = .ok (.iaload, 1) := by decide +kernel
theorem dX11_walksTo_87 : decode cX11_walksTo 87 = .ok (.iastore, 1) := by decide +kernel
theorem dX11_walksTo_88 : decode cX11_walksTo 88 = .ok (.aload_n 0, 1) := by decide +kernel
theorem dX11_walksTo_89 : decode cX11_walksTo 89 = .ok (.iconst 2, 1) := by decide +kernel
theorem dX11_walksTo_90 : decode cX11_walksTo 90 = .ok (.aload_n 0, 1) := by decide +kernel
theorem dX11_walksTo_91 : decode cX11_walksTo 91 = .ok (.getfield 125, 3) := by decide +kernel
theorem dX11_walksTo_94 : decode cX11_walksTo 94 = .ok (.bipush 6, 2) := by decide +kernel
theorem dX11_walksTo_96 : decode cX11_walksTo 96 = .ok (.iaload, 1) := by decide +kernel
theorem dX11_walksTo_97 : decode cX11_walksTo 97 = .ok (.invokevirtual 369, 3) := by decide +kernel
theorem dX11_walksTo_100 : decode cX11_walksTo 100 = .ok (.iconst 0, 1) := by decide +kernel
theorem dX11_walksTo_101 : decode cX11_walksTo 101 = .ok (.bipush 99, 2) := by decide +kernel
theorem dX11_walksTo_103 : decode cX11_walksTo 103 = .ok (.invokestatic 372, 3) := by decide +kernel
theorem dX11_walksTo_106 : decode cX11_walksTo 106 = .ok (.ireturn, 1) := by decide +kernel
theorem dX11_asksAt_0 : decode cX11_asksAt 0 = .ok (.aload_n 0, 1) := by decide +kernel
theorem dX11_asksAt_1 : decode cX11_asksAt 1 = .ok (.invokevirtual 360, 3) := by decide +kernel
theorem dX11_asksAt_4 : decode cX11_asksAt 4 = .ok (.aload_n 0, 1) := by decide +kernel
theorem dX11_asksAt_5 : decode cX11_asksAt 5 = .ok (.getfield 125, 3) := by decide +kernel
theorem dX11_asksAt_8 : decode cX11_asksAt 8 = .ok (.bipush 7, 2) := by decide +kernel
theorem dX11_asksAt_10 : decode cX11_asksAt 10 = .ok (.aload_n 0, 1) := by decide +kernel
theorem dX11_asksAt_11 : decode cX11_asksAt 11 = .ok (.getfield 52, 3) := by decide +kernel
theorem dX11_asksAt_14 : decode cX11_asksAt 14 = .ok (.bipush 7, 2) := by decide +kernel
theorem dX11_asksAt_16 : decode cX11_asksAt 16 = .ok (.aload_n 0, 1) := by decide +kernel
theorem dX11_asksAt_17 : decode cX11_asksAt 17 = .ok (.getfield 254, 3) := by decide +kernel
theorem dX11_asksAt_20 : decode cX11_asksAt 20 = .ok (.imul, 1) := by decide +kernel
theorem dX11_asksAt_21 : decode cX11_asksAt 21 = .ok (.iload_n 1, 1) := by decide +kernel
theorem dX11_asksAt_22 : decode cX11_asksAt 22 = .ok (.iadd, 1) := by decide +kernel
theorem dX11_asksAt_23 : decode cX11_asksAt 23 = .ok (.iaload, 1) := by decide +kernel
theorem dX11_asksAt_24 : decode cX11_asksAt 24 = .ok (.iastore, 1) := by decide +kernel
theorem dX11_asksAt_25 : decode cX11_asksAt 25 = .ok (.aload_n 0, 1) := by decide +kernel
theorem dX11_asksAt_26 : decode cX11_asksAt 26 = .ok (.getfield 125, 3) := by decide +kernel
theorem dX11_asksAt_29 : decode cX11_asksAt 29 = .ok (.bipush 8, 2) := by decide +kernel
theorem dX11_asksAt_31 : decode cX11_asksAt 31 = .ok (.aload_n 0, 1) := by decide +kernel
theorem dX11_asksAt_32 : decode cX11_asksAt 32 = .ok (.getfield 55, 3) := by decide +kernel
theorem dX11_asksAt_35 : decode cX11_asksAt 35 = .ok (.bipush 7, 2) := by decide +kernel
theorem dX11_asksAt_37 : decode cX11_asksAt 37 = .ok (.aload_n 0, 1) := by decide +kernel
theorem dX11_asksAt_38 : decode cX11_asksAt 38 = .ok (.getfield 254, 3) := by decide +kernel
theorem dX11_asksAt_41 : decode cX11_asksAt 41 = .ok (.imul, 1) := by decide +kernel
theorem dX11_asksAt_42 : decode cX11_asksAt 42 = .ok (.iload_n 1, 1) := by decide +kernel
theorem dX11_asksAt_43 : decode cX11_asksAt 43 = .ok (.iadd, 1) := by decide +kernel
theorem dX11_asksAt_44 : decode cX11_asksAt 44 = .ok (.iaload, 1) := by decide +kernel
theorem dX11_asksAt_45 : decode cX11_asksAt 45 = .ok (.iastore, 1) := by decide +kernel
theorem dX11_asksAt_46 : decode cX11_asksAt 46 = .ok (.aload_n 0, 1) := by decide +kernel
theorem dX11_asksAt_47 : decode cX11_asksAt 47 = .ok (.iconst 3, 1) := by decide +kernel
theorem dX11_asksAt_48 : decode cX11_asksAt 48 = .ok (.iconst 1, 1) := by decide +kernel
theorem dX11_asksAt_49 : decode cX11_asksAt 49 = .ok (.invokevirtual 369, 3) := by decide +kernel
theorem dX11_asksAt_52 : decode cX11_asksAt 52 = .ok (.iconst 0, 1) := by decide +kernel
theorem dX11_asksAt_53 : decode cX11_asksAt 53 = .ok (.bipush 99, 2) := by decide +kernel
theorem dX11_asksAt_55 : decode cX11_asksAt 55 = .ok (.invokestatic 372, 3) := by decide +kernel
theorem dX11_asksAt_58 : decode cX11_asksAt 58 = .ok (.ireturn, 1) := by decide +kernel
theorem dX11_swearBits_0 : decode cX11_swearBits 0 = .ok (.iconst 0, 1) := by decide +kernel
theorem dX11_swearBits_1 : decode cX11_swearBits 1 = .ok (.istore_n 2, 1) := by decide +kernel
theorem dX11_swearBits_2 : decode cX11_swearBits 2 = .ok (.iconst 0, 1) := by decide +kernel
theorem dX11_swearBits_3 : decode cX11_swearBits 3 = .ok (.istore_n 3, 1) := by decide +kernel
theorem dX11_swearBits_4 : decode cX11_swearBits 4 = .ok (.iload_n 3, 1) := by decide +kernel
theorem dX11_swearBits_5 : decode cX11_swearBits 5 = .ok (.aload_n 0, 1) := by decide +kernel
theorem dX11_swearBits_6 : decode cX11_swearBits 6 = .ok (.getfield 61, 3) := by decide +kernel
theorem dX11_swearBits_9 : decode cX11_swearBits 9 = .ok (.aload_n 0, 1) := by decide +kernel
theorem dX11_swearBits_10 : decode cX11_swearBits 10 = .ok (.getfield 254, 3) := by decide +kernel
theorem dX11_swearBits_13 : decode cX11_swearBits 13 = .ok (.iaload, 1) := by decide +kernel
theorem dX11_swearBits_14 : decode cX11_swearBits 14 = .ok (.if_icmp .ge 24, 3) := by decide +kernel
theorem dX11_swearBits_17 : decode cX11_swearBits 17 = .ok (.aload_n 0, 1) := by decide +kernel
theorem dX11_swearBits_18 : decode cX11_swearBits 18 = .ok (.iload_n 3, 1) := by decide +kernel
theorem dX11_swearBits_19 : decode cX11_swearBits 19 = .ok (.iload_n 1, 1) := by decide +kernel
theorem dX11_swearBits_20 : decode cX11_swearBits 20 = .ok (.invokevirtual 378, 3) := by decide +kernel
theorem dX11_swearBits_23 : decode cX11_swearBits 23 = .ok (.ifCond .eq 9, 3) := by decide +kernel
theorem dX11_swearBits_26 : decode cX11_swearBits 26 = .ok (.iload_n 2, 1) := by decide +kernel
theorem dX11_swearBits_27 : decode cX11_swearBits 27 = .ok (.iconst 1, 1) := by decide +kernel
theorem dX11_swearBits_28 : decode cX11_swearBits 28 = .ok (.iload_n 3, 1) := by decide +kernel
theorem dX11_swearBits_29 : decode cX11_swearBits 29 = .ok (.ishl, 1) := by decide +kernel
theorem dX11_swearBits_30 : decode cX11_swearBits 30 = .ok (.ior, 1) := by decide +kernel
theorem dX11_swearBits_31 : decode cX11_swearBits 31 = .ok (.istore_n 2, 1) := by decide +kernel
theorem dX11_swearBits_32 : decode cX11_swearBits 32 = .ok (.iinc 3 1, 3) := by decide +kernel
theorem dX11_swearBits_35 : decode cX11_swearBits 35 = .ok (.goto (-31), 3) := by decide +kernel
theorem dX11_swearBits_38 : decode cX11_swearBits 38 = .ok (.iload_n 2, 1) := by decide +kernel
theorem dX11_swearBits_39 : decode cX11_swearBits 39 = .ok (.ireturn, 1) := by decide +kernel
theorem dX11_doesStand_0 : decode cX11_doesStand 0 = .ok (.aload_n 0, 1) := by decide +kernel
theorem dX11_doesStand_1 : decode cX11_doesStand 1 = .ok (.getfield 134, 3) := by decide +kernel
theorem dX11_doesStand_4 : decode cX11_doesStand 4 = .ok (.bipush 16, 2) := by decide +kernel
theorem dX11_doesStand_6 : decode cX11_doesStand 6 = .ok (.iaload, 1) := by decide +kernel
theorem dX11_doesStand_7 : decode cX11_doesStand 7 = .ok (.iload_n 1, 1) := by decide +kernel
theorem dX11_doesStand_8 : decode cX11_doesStand 8 = .ok (.ishr, 1) := by decide +kernel
theorem dX11_doesStand_9 : decode cX11_doesStand 9 = .ok (.iconst 1, 1) := by decide +kernel
theorem dX11_doesStand_10 : decode cX11_doesStand 10 = .ok (.iand, 1) := by decide +kernel
theorem dX11_doesStand_11 : decode cX11_doesStand 11 = .ok (.iconst 1, 1) := by decide +kernel
theorem dX11_doesStand_12 : decode cX11_doesStand 12 = .ok (.if_icmp .ne 5, 3) := by decide +kernel
theorem dX11_doesStand_15 : decode cX11_doesStand 15 = .ok (.iconst 0, 1) := by decide +kernel
theorem dX11_doesStand_16 : decode cX11_doesStand 16 = .ok (.ireturn, 1) := by decide +kernel
theorem dX11_doesStand_17 : decode cX11_doesStand 17 = .ok (.aload_n 0, 1) := by decide +kernel
theorem dX11_doesStand_18 : decode cX11_doesStand 18 = .ok (.getfield 350, 3) := by decide +kernel
theorem dX11_doesStand_21 : decode cX11_doesStand 21 = .ok (.ifCond .ne 23, 3) := by decide +kernel
theorem dX11_doesStand_24 : decode cX11_doesStand 24 = .ok (.aload_n 0, 1) := by decide +kernel
theorem dX11_doesStand_25 : decode cX11_doesStand 25 = .ok (.iload_n 1, 1) := by decide +kernel
theorem dX11_doesStand_26 : decode cX11_doesStand 26 = .ok (.invokevirtual 382, 3) := by decide +kernel
theorem dX11_doesStand_29 : decode cX11_doesStand 29 = .ok (.invokestatic 366, 3) := by decide +kernel
theorem dX11_doesStand_32 : decode cX11_doesStand 32 = .ok (.aload_n 0, 1) := by decide +kernel
theorem dX11_doesStand_33 : decode cX11_doesStand 33 = .ok (.getfield 88, 3) := by decide +kernel
theorem dX11_doesStand_36 : decode cX11_doesStand 36 = .ok (.aload_n 0, 1) := by decide +kernel
theorem dX11_doesStand_37 : decode cX11_doesStand 37 = .ok (.getfield 254, 3) := by decide +kernel
theorem dX11_doesStand_40 : decode cX11_doesStand 40 = .ok (.iaload, 1) := by decide +kernel
theorem dX11_doesStand_41 : decode cX11_doesStand 41 = .ok (.if_icmp .lt 7, 3) := by decide +kernel
theorem dX11_doesStand_44 : decode cX11_doesStand 44 = .ok (.iconst 1, 1) := by decide +kernel
theorem dX11_doesStand_45 : decode cX11_doesStand 45 = .ok (.goto 4, 3) := by decide +kernel
theorem dX11_doesStand_48 : decode cX11_doesStand 48 = .ok (.iconst 0, 1) := by decide +kernel
theorem dX11_doesStand_49 : decode cX11_doesStand 49 = .ok (.ireturn, 1) := by decide +kernel
theorem dX11_fillsWhose_0 : decode cX11_fillsWhose 0 = .ok (.iconst 0, 1) := by decide +kernel
theorem dX11_fillsWhose_1 : decode cX11_fillsWhose 1 = .ok (.istore_n 1, 1) := by decide +kernel
theorem dX11_fillsWhose_2 : decode cX11_fillsWhose 2 = .ok (.iload_n 1, 1) := by decide +kernel
theorem dX11_fillsWhose_3 : decode cX11_fillsWhose 3 = .ok (.aload_n 0, 1) := by decide +kernel
theorem dX11_fillsWhose_4 : decode cX11_fillsWhose 4 = .ok (.getfield 49, 3) := by decide +kernel
theorem dX11_fillsWhose_7 : decode cX11_fillsWhose 7 = .ok (.aload_n 0, 1) := by decide +kernel
theorem dX11_fillsWhose_8 : decode cX11_fillsWhose 8 = .ok (.getfield 254, 3) := by decide +kernel
theorem dX11_fillsWhose_11 : decode cX11_fillsWhose 11 = .ok (.iaload, 1) := by decide +kernel
theorem dX11_fillsWhose_12 : decode cX11_fillsWhose 12 = .ok (.if_icmp .ge 29, 3) := by decide +kernel
theorem dX11_fillsWhose_15 : decode cX11_fillsWhose 15 = .ok (.aload_n 0, 1) := by decide +kernel
theorem dX11_fillsWhose_16 : decode cX11_fillsWhose 16 = .ok (.getfield 137, 3) := by decide +kernel
theorem dX11_fillsWhose_19 : decode cX11_fillsWhose 19 = .ok (.iload_n 1, 1) := by decide +kernel
theorem dX11_fillsWhose_20 : decode cX11_fillsWhose 20 = .ok (.aload_n 0, 1) := by decide +kernel
theorem dX11_fillsWhose_21 : decode cX11_fillsWhose 21 = .ok (.getfield 58, 3) := by decide +kernel
theorem dX11_fillsWhose_24 : decode cX11_fillsWhose 24 = .ok (.bipush 7, 2) := by decide +kernel
theorem dX11_fillsWhose_26 : decode cX11_fillsWhose 26 = .ok (.aload_n 0, 1) := by decide +kernel
theorem dX11_fillsWhose_27 : decode cX11_fillsWhose 27 = .ok (.getfield 254, 3) := by decide +kernel
theorem dX11_fillsWhose_30 : decode cX11_fillsWhose 30 = .ok (.imul, 1) := by decide +kernel
theorem dX11_fillsWhose_31 : decode cX11_fillsWhose 31 = .ok (.iload_n 1, 1) := by decide +kernel
theorem dX11_fillsWhose_32 : decode cX11_fillsWhose 32 = .ok (.iadd, 1) := by decide +kernel
theorem dX11_fillsWhose_33 : decode cX11_fillsWhose 33 = .ok (.iaload, 1) := by decide +kernel
theorem dX11_fillsWhose_34 : decode cX11_fillsWhose 34 = .ok (.iastore, 1) := by decide +kernel
theorem dX11_fillsWhose_35 : decode cX11_fillsWhose 35 = .ok (.iinc 1 1, 3) := by decide +kernel
theorem dX11_fillsWhose_38 : decode cX11_fillsWhose 38 = .ok (.goto (-36), 3) := by decide +kernel
theorem dX11_fillsWhose_41 : decode cX11_fillsWhose 41 = .ok (.iconst 0, 1) := by decide +kernel
theorem dX11_fillsWhose_42 : decode cX11_fillsWhose 42 = .ok (.istore_n 1, 1) := by decide +kernel
theorem dX11_fillsWhose_43 : decode cX11_fillsWhose 43 = .ok (.iload_n 1, 1) := by decide +kernel
theorem dX11_fillsWhose_44 : decode cX11_fillsWhose 44 = .ok (.aload_n 0, 1) := by decide +kernel
theorem dX11_fillsWhose_45 : decode cX11_fillsWhose 45 = .ok (.getfield 134, 3) := by decide +kernel
theorem dX11_fillsWhose_48 : decode cX11_fillsWhose 48 = .ok (.bipush 15, 2) := by decide +kernel
theorem dX11_fillsWhose_50 : decode cX11_fillsWhose 50 = .ok (.iaload, 1) := by decide +kernel
theorem dX11_fillsWhose_51 : decode cX11_fillsWhose 51 = .ok (.if_icmp .ge 92, 3) := by decide +kernel
theorem dX11_fillsWhose_54 : decode cX11_fillsWhose 54 = .ok (.aload_n 0, 1) := by decide +kernel
theorem dX11_fillsWhose_55 : decode cX11_fillsWhose 55 = .ok (.getfield 134, 3) := by decide +kernel
theorem dX11_fillsWhose_58 : decode cX11_fillsWhose 58 = .ok (.bipush 17, 2) := by decide +kernel
theorem dX11_fillsWhose_60 : decode cX11_fillsWhose 60 = .ok (.iload_n 1, 1) := by decide +kernel
theorem dX11_fillsWhose_61 : decode cX11_fillsWhose 61 = .ok (.iadd, 1) := by decide +kernel
theorem dX11_fillsWhose_62 : decode cX11_fillsWhose 62 = .ok (.iaload, 1) := by decide +kernel
theorem dX11_fillsWhose_63 : decode cX11_fillsWhose 63 = .ok (.istore_n 2, 1) := by decide +kernel
theorem dX11_fillsWhose_64 : decode cX11_fillsWhose 64 = .ok (.aload_n 0, 1) := by decide +kernel
theorem dX11_fillsWhose_65 : decode cX11_fillsWhose 65 = .ok (.getfield 140, 3) := by decide +kernel
theorem dX11_fillsWhose_68 : decode cX11_fillsWhose 68 = .ok (.iload_n 1, 1) := by decide +kernel
theorem dX11_fillsWhose_69 : decode cX11_fillsWhose 69 = .ok (.aload_n 0, 1) := by decide +kernel
theorem dX11_fillsWhose_70 : decode cX11_fillsWhose 70 = .ok (.iload_n 1, 1) := by decide +kernel
theorem dX11_fillsWhose_71 : decode cX11_fillsWhose 71 = .ok (.invokevirtual 385, 3) := by decide +kernel
theorem dX11_fillsWhose_74 : decode cX11_fillsWhose 74 = .ok (.bastore, 1) := by decide +kernel
theorem dX11_fillsWhose_75 : decode cX11_fillsWhose 75 = .ok (.aload_n 0, 1) := by decide +kernel
theorem dX11_fillsWhose_76 : decode cX11_fillsWhose 76 = .ok (.getfield 143, 3) := by decide +kernel
theorem dX11_fillsWhose_79 : decode cX11_fillsWhose 79 = .ok (.iload_n 1, 1) := by decide +kernel
theorem dX11_fillsWhose_80 : decode cX11_fillsWhose 80 = .ok (.aload_n 0, 1) := by decide +kernel
theorem dX11_fillsWhose_81 : decode cX11_fillsWhose 81 = .ok (.getfield 140, 3) := by decide +kernel
theorem dX11_fillsWhose_84 : decode cX11_fillsWhose 84 = .ok (.iload_n 1, 1) := by decide +kernel
theorem dX11_fillsWhose_85 : decode cX11_fillsWhose 85 = .ok (.baload, 1) := by decide +kernel
theorem dX11_fillsWhose_86 : decode cX11_fillsWhose 86 = .ok (.ifCond .eq 25, 3) := by decide +kernel
theorem dX11_fillsWhose_89 : decode cX11_fillsWhose 89 = .ok (.aload_n 0, 1) := by decide +kernel
theorem dX11_fillsWhose_90 : decode cX11_fillsWhose 90 = .ok (.getfield 137, 3) := by decide +kernel
theorem dX11_fillsWhose_93 : decode cX11_fillsWhose 93 = .ok (.iload_n 2, 1) := by decide +kernel
theorem dX11_fillsWhose_94 : decode cX11_fillsWhose 94 = .ok (.iaload, 1) := by decide +kernel
theorem dX11_fillsWhose_95 : decode cX11_fillsWhose 95 = .ok (.aload_n 0, 1) := by decide +kernel
theorem dX11_fillsWhose_96 : decode cX11_fillsWhose 96 = .ok (.getfield 134, 3) := by decide +kernel
theorem dX11_fillsWhose_99 : decode cX11_fillsWhose 99 = .ok (.bipush 37, 2) := by decide +kernel
theorem dX11_fillsWhose_101 : decode cX11_fillsWhose 101 = .ok (.iload_n 1, 1) := by decide +kernel
theorem dX11_fillsWhose_102 : decode cX11_fillsWhose 102 = .ok (.iadd, 1) := by decide +kernel
theorem dX11_fillsWhose_103 : decode cX11_fillsWhose 103 = .ok (.iaload, 1) := by decide +kernel
theorem dX11_fillsWhose_104 : decode cX11_fillsWhose 104 = .ok (.if_icmp .ne 7, 3) := by decide +kernel
theorem dX11_fillsWhose_107 : decode cX11_fillsWhose 107 = .ok (.iconst 1, 1) := by decide +kernel
theorem dX11_fillsWhose_108 : decode cX11_fillsWhose 108 = .ok (.goto 4, 3) := by decide +kernel
theorem dX11_fillsWhose_111 : decode cX11_fillsWhose 111 = .ok (.iconst 0, 1) := by decide +kernel
theorem dX11_fillsWhose_112 : decode cX11_fillsWhose 112 = .ok (.bastore, 1) := by decide +kernel
theorem dX11_fillsWhose_113 : decode cX11_fillsWhose 113 = .ok (.aload_n 0, 1) := by decide +kernel
theorem dX11_fillsWhose_114 : decode cX11_fillsWhose 114 = .ok (.getfield 143, 3) := by decide +kernel
theorem dX11_fillsWhose_117 : decode cX11_fillsWhose 117 = .ok (.iload_n 1, 1) := by decide +kernel
theorem dX11_fillsWhose_118 : decode cX11_fillsWhose 118 = .ok (.baload, 1) := by decide +kernel
theorem dX11_fillsWhose_119 : decode cX11_fillsWhose 119 = .ok (.ifCond .eq 18, 3) := by decide +kernel
theorem dX11_fillsWhose_122 : decode cX11_fillsWhose 122 = .ok (.aload_n 0, 1) := by decide +kernel
theorem dX11_fillsWhose_123 : decode cX11_fillsWhose 123 = .ok (.getfield 137, 3) := by decide +kernel
theorem dX11_fillsWhose_126 : decode cX11_fillsWhose 126 = .ok (.iload_n 2, 1) := by decide +kernel
theorem dX11_fillsWhose_127 : decode cX11_fillsWhose 127 = .ok (.aload_n 0, 1) := by decide +kernel
theorem dX11_fillsWhose_128 : decode cX11_fillsWhose 128 = .ok (.getfield 134, 3) := by decide +kernel
theorem dX11_fillsWhose_131 : decode cX11_fillsWhose 131 = .ok (.bipush 57, 2) := by decide +kernel
theorem dX11_fillsWhose_133 : decode cX11_fillsWhose 133 = .ok (.iload_n 1, 1) := by decide +kernel
theorem dX11_fillsWhose_134 : decode cX11_fillsWhose 134 = .ok (.iadd, 1) := by decide +kernel
theorem dX11_fillsWhose_135 : decode cX11_fillsWhose 135 = .ok (.iaload, 1) := by decide +kernel
theorem dX11_fillsWhose_136 : decode cX11_fillsWhose 136 = .ok (.iastore, 1) := by decide +kernel
theorem dX11_fillsWhose_137 : decode cX11_fillsWhose 137 = .ok (.iinc 1 1, 3) := by decide +kernel
theorem dX11_fillsWhose_140 : decode cX11_fillsWhose 140 = .ok (.goto (-97), 3) := by decide +kernel
theorem dX11_fillsWhose_143 : decode cX11_fillsWhose 143 = .ok (.return_, 1) := by decide +kernel
theorem dX11_yearGoes_0 : decode cX11_yearGoes 0 = .ok (.iconst 0, 1) := by decide +kernel
theorem dX11_yearGoes_1 : decode cX11_yearGoes 1 = .ok (.istore_n 1, 1) := by decide +kernel
theorem dX11_yearGoes_2 : decode cX11_yearGoes 2 = .ok (.iload_n 1, 1) := by decide +kernel
theorem dX11_yearGoes_3 : decode cX11_yearGoes 3 = .ok (.aload_n 0, 1) := by decide +kernel
theorem dX11_yearGoes_4 : decode cX11_yearGoes 4 = .ok (.getfield 61, 3) := by decide +kernel
theorem dX11_yearGoes_7 : decode cX11_yearGoes 7 = .ok (.aload_n 0, 1) := by decide +kernel
theorem dX11_yearGoes_8 : decode cX11_yearGoes 8 = .ok (.getfield 254, 3) := by decide +kernel
theorem dX11_yearGoes_11 : decode cX11_yearGoes 11 = .ok (.iaload, 1) := by decide +kernel
theorem dX11_yearGoes_12 : decode cX11_yearGoes 12 = .ok (.if_icmp .ge 89, 3) := by decide +kernel
theorem dX11_yearGoes_15 : decode cX11_yearGoes 15 = .ok (.aload_n 0, 1) := by decide +kernel
theorem dX11_yearGoes_16 : decode cX11_yearGoes 16 = .ok (.getfield 134, 3) := by decide +kernel
theorem dX11_yearGoes_19 : decode cX11_yearGoes 19 = .ok (.bipush 7, 2) := by decide +kernel
theorem dX11_yearGoes_21 : decode cX11_yearGoes 21 = .ok (.iload_n 1, 1) := by decide +kernel
theorem dX11_yearGoes_22 : decode cX11_yearGoes 22 = .ok (.iadd, 1) := by decide +kernel
theorem dX11_yearGoes_23 : decode cX11_yearGoes 23 = .ok (.iaload, 1) := by decide +kernel
theorem dX11_yearGoes_24 : decode cX11_yearGoes 24 = .ok (.ifCond .ne 6, 3) := by decide +kernel
theorem dX11_yearGoes_27 : decode cX11_yearGoes 27 = .ok (.goto 68, 3) := by decide +kernel
theorem dX11_yearGoes_30 : decode cX11_yearGoes 30 = .ok (.aload_n 0, 1) := by decide +kernel
theorem dX11_yearGoes_31 : decode cX11_yearGoes 31 = .ok (.getfield 347, 3) := by decide +kernel
theorem dX11_yearGoes_34 : decode cX11_yearGoes 34 = .ok (.ifCond .ne 40, 3) := by decide +kernel
theorem dX11_yearGoes_37 : decode cX11_yearGoes 37 = .ok (.aload_n 0, 1) := by decide +kernel
theorem dX11_yearGoes_38 : decode cX11_yearGoes 38 = .ok (.bipush 8, 2) := by decide +kernel
theorem dX11_yearGoes_40 : decode cX11_yearGoes 40 = .ok (.aload_n 0, 1) := by decide +kernel
theorem dX11_yearGoes_41 : decode cX11_yearGoes 41 = .ok (.getfield 134, 3) := by decide +kernel
theorem dX11_yearGoes_44 : decode cX11_yearGoes 44 = .ok (.bipush 14, 2) := by decide +kernel
theorem dX11_yearGoes_46 : decode cX11_yearGoes 46 = .ok (.iaload, 1) := by decide +kernel
theorem dX11_yearGoes_47 : decode cX11_yearGoes 47 = .ok (.imul, 1) := by decide +kernel
theorem dX11_yearGoes_48 : decode cX11_yearGoes 48 = .ok (.iload_n 1, 1) := by decide +kernel
theorem dX11_yearGoes_49 : decode cX11_yearGoes 49 = .ok (.iadd, 1) := by decide +kernel
theorem dX11_yearGoes_50 : decode cX11_yearGoes 50 = .ok (.invokevirtual 388, 3) := by decide +kernel
theorem dX11_yearGoes_53 : decode cX11_yearGoes 53 = .ok (.aload_n 0, 1) := by decide +kernel
theorem dX11_yearGoes_54 : decode cX11_yearGoes 54 = .ok (.iload_n 1, 1) := by decide +kernel
theorem dX11_yearGoes_55 : decode cX11_yearGoes 55 = .ok (.invokevirtual 391, 3) := by decide +kernel
theorem dX11_yearGoes_58 : decode cX11_yearGoes 58 = .ok (.if_icmp .ge 16, 3) := by decide +kernel
theorem dX11_yearGoes_61 : decode cX11_yearGoes 61 = .ok (.aload_n 0, 1) := by decide +kernel
theorem dX11_yearGoes_62 : decode cX11_yearGoes 62 = .ok (.getfield 134, 3) := by decide +kernel
theorem dX11_yearGoes_65 : decode cX11_yearGoes 65 = .ok (.bipush 7, 2) := by decide +kernel
theorem dX11_yearGoes_67 : decode cX11_yearGoes 67 = .ok (.iload_n 1, 1) := by decide +kernel
theorem dX11_yearGoes_68 : decode cX11_yearGoes 68 = .ok (.iadd, 1) := by decide +kernel
theorem dX11_yearGoes_69 : decode cX11_yearGoes 69 = .ok (.iconst 0, 1) := by decide +kernel
theorem dX11_yearGoes_70 : decode cX11_yearGoes 70 = .ok (.iastore, 1) := by decide +kernel
theorem dX11_yearGoes_71 : decode cX11_yearGoes 71 = .ok (.goto 24, 3) := by decide +kernel
theorem dX11_yearGoes_74 : decode cX11_yearGoes 74 = .ok (.aload_n 0, 1) := by decide +kernel
theorem dX11_yearGoes_75 : decode cX11_yearGoes 75 = .ok (.getfield 134, 3) := by decide +kernel
theorem dX11_yearGoes_78 : decode cX11_yearGoes 78 = .ok (.iload_n 1, 1) := by decide +kernel
theorem dX11_yearGoes_79 : decode cX11_yearGoes 79 = .ok (.aload_n 0, 1) := by decide +kernel
theorem dX11_yearGoes_80 : decode cX11_yearGoes 80 = .ok (.getfield 134, 3) := by decide +kernel
theorem dX11_yearGoes_83 : decode cX11_yearGoes 83 = .ok (.iload_n 1, 1) := by decide +kernel
theorem dX11_yearGoes_84 : decode cX11_yearGoes 84 = .ok (.iaload, 1) := by decide +kernel
theorem dX11_yearGoes_85 : decode cX11_yearGoes 85 = .ok (.iconst 1, 1) := by decide +kernel
theorem dX11_yearGoes_86 : decode cX11_yearGoes 86 = .ok (.iadd, 1) := by decide +kernel
theorem dX11_yearGoes_87 : decode cX11_yearGoes 87 = .ok (.iconst 0, 1) := by decide +kernel
theorem dX11_yearGoes_88 : decode cX11_yearGoes 88 = .ok (.sipush 999, 3) := by decide +kernel
theorem dX11_yearGoes_91 : decode cX11_yearGoes 91 = .ok (.invokestatic 372, 3) := by decide +kernel
theorem dX11_yearGoes_94 : decode cX11_yearGoes 94 = .ok (.iastore, 1) := by decide +kernel
theorem dX11_yearGoes_95 : decode cX11_yearGoes 95 = .ok (.iinc 1 1, 3) := by decide +kernel
theorem dX11_yearGoes_98 : decode cX11_yearGoes 98 = .ok (.goto (-96), 3) := by decide +kernel
theorem dX11_yearGoes_101 : decode cX11_yearGoes 101 = .ok (.aload_n 0, 1) := by decide +kernel
theorem dX11_yearGoes_102 : decode cX11_yearGoes 102 = .ok (.getfield 134, 3) := by decide +kernel
theorem dX11_yearGoes_105 : decode cX11_yearGoes 105 = .ok (.bipush 14, 2) := by decide +kernel
theorem dX11_yearGoes_107 : decode cX11_yearGoes 107 = .ok (.dup2, 1) := by decide +kernel
theorem dX11_yearGoes_108 : decode cX11_yearGoes 108 = .ok (.iaload, 1) := by decide +kernel
theorem dX11_yearGoes_109 : decode cX11_yearGoes 109 = .ok (.iconst 1, 1) := by decide +kernel
theorem dX11_yearGoes_110 : decode cX11_yearGoes 110 = .ok (.iadd, 1) := by decide +kernel
theorem dX11_yearGoes_111 : decode cX11_yearGoes 111 = .ok (.iastore, 1) := by decide +kernel
theorem dX11_yearGoes_112 : decode cX11_yearGoes 112 = .ok (.return_, 1) := by decide +kernel
theorem dX11_goes_0 : decode cX11_goes 0 = .ok (.iconst 0, 1) := by decide +kernel
theorem dX11_goes_1 : decode cX11_goes 1 = .ok (.istore_n 2, 1) := by decide +kernel
theorem dX11_goes_2 : decode cX11_goes 2 = .ok (.iload_n 2, 1) := by decide +kernel
theorem dX11_goes_3 : decode cX11_goes 3 = .ok (.iload_n 1, 1) := by decide +kernel
theorem dX11_goes_4 : decode cX11_goes 4 = .ok (.if_icmp .ge 13, 3) := by decide +kernel
theorem dX11_goes_7 : decode cX11_goes 7 = .ok (.aload_n 0, 1) := by decide +kernel
theorem dX11_goes_8 : decode cX11_goes 8 = .ok (.invokevirtual 394, 3) := by decide +kernel
theorem dX11_goes_11 : decode cX11_goes 11 = .ok (.iinc 2 1, 3) := by decide +kernel
theorem dX11_goes_14 : decode cX11_goes 14 = .ok (.goto (-12), 3) := by decide +kernel
theorem dX11_goes_17 : decode cX11_goes 17 = .ok (.return_, 1) := by decide +kernel
theorem dX11_countsOf_0 : decode cX11_countsOf 0 = .ok (.iconst 0, 1) := by decide +kernel
theorem dX11_countsOf_1 : decode cX11_countsOf 1 = .ok (.istore_n 2, 1) := by decide +kernel
theorem dX11_countsOf_2 : decode cX11_countsOf 2 = .ok (.iconst 0, 1) := by decide +kernel
theorem dX11_countsOf_3 : decode cX11_countsOf 3 = .ok (.istore_n 3, 1) := by decide +kernel
theorem dX11_countsOf_4 : decode cX11_countsOf 4 = .ok (.iload_n 3, 1) := by decide +kernel
theorem dX11_countsOf_5 : decode cX11_countsOf 5 = .ok (.aload_n 0, 1) := by decide +kernel
theorem dX11_countsOf_6 : decode cX11_countsOf 6 = .ok (.getfield 134, 3) := by decide +kernel
theorem dX11_countsOf_9 : decode cX11_countsOf 9 = .ok (.bipush 15, 2) := by decide +kernel
theorem dX11_countsOf_11 : decode cX11_countsOf 11 = .ok (.iaload, 1) := by decide +kernel
theorem dX11_countsOf_12 : decode cX11_countsOf 12 = .ok (.if_icmp .ge 34, 3) := by decide +kernel
theorem dX11_countsOf_15 : decode cX11_countsOf 15 = .ok (.aload_n 0, 1) := by decide +kernel
theorem dX11_countsOf_16 : decode cX11_countsOf 16 = .ok (.getfield 134, 3) := by decide +kernel
theorem dX11_countsOf_19 : decode cX11_countsOf 19 = .ok (.bipush 17, 2) := by decide +kernel
theorem dX11_countsOf_21 : decode cX11_countsOf 21 = .ok (.iload_n 3, 1) := by decide +kernel
theorem dX11_countsOf_22 : decode cX11_countsOf 22 = .ok (.iadd, 1) := by decide +kernel
theorem dX11_countsOf_23 : decode cX11_countsOf 23 = .ok (.iaload, 1) := by decide +kernel
theorem dX11_countsOf_24 : decode cX11_countsOf 24 = .ok (.iload_n 1, 1) := by decide +kernel
theorem dX11_countsOf_25 : decode cX11_countsOf 25 = .ok (.if_icmp .ne 15, 3) := by decide +kernel
theorem dX11_countsOf_28 : decode cX11_countsOf 28 = .ok (.aload_n 0, 1) := by decide +kernel
theorem dX11_countsOf_29 : decode cX11_countsOf 29 = .ok (.getfield 143, 3) := by decide +kernel
theorem dX11_countsOf_32 : decode cX11_countsOf 32 = .ok (.iload_n 3, 1) := by decide +kernel
theorem dX11_countsOf_33 : decode cX11_countsOf 33 = .ok (.baload, 1) := by decide +kernel
theorem dX11_countsOf_34 : decode cX11_countsOf 34 = .ok (.ifCond .eq 6, 3) := by decide +kernel
theorem dX11_countsOf_37 : decode cX11_countsOf 37 = .ok (.iinc 2 1, 3) := by decide +kernel
theorem dX11_countsOf_40 : decode cX11_countsOf 40 = .ok (.iinc 3 1, 3) := by decide +kernel
theorem dX11_countsOf_43 : decode cX11_countsOf 43 = .ok (.goto (-39), 3) := by decide +kernel
theorem dX11_countsOf_46 : decode cX11_countsOf 46 = .ok (.iload_n 2, 1) := by decide +kernel
theorem dX11_countsOf_47 : decode cX11_countsOf 47 = .ok (.ireturn, 1) := by decide +kernel
theorem dX11_plot_0 : decode cX11_plot 0 = .ok (.aload_n 0, 1) := by decide +kernel
theorem dX11_plot_1 : decode cX11_plot 1 = .ok (.iload_n 1, 1) := by decide +kernel
theorem dX11_plot_2 : decode cX11_plot 2 = .ok (.invokevirtual 397, 3) := by decide +kernel
theorem dX11_plot_5 : decode cX11_plot 5 = .ok (.ifCond .ne 5, 3) := by decide +kernel
theorem dX11_plot_8 : decode cX11_plot 8 = .ok (.iconst (-1), 1) := by decide +kernel
theorem dX11_plot_9 : decode cX11_plot 9 = .ok (.ireturn, 1) := by decide +kernel
theorem dX11_plot_10 : decode cX11_plot 10 = .ok (.aload_n 0, 1) := by decide +kernel
theorem dX11_plot_11 : decode cX11_plot 11 = .ok (.invokevirtual 400, 3) := by decide +kernel
theorem dX11_plot_14 : decode cX11_plot 14 = .ok (.aload_n 0, 1) := by decide +kernel
theorem dX11_plot_15 : decode cX11_plot 15 = .ok (.invokevirtual 403, 3) := by decide +kernel
theorem dX11_plot_18 : decode cX11_plot 18 = .ok (.iload_n 2, 1) := by decide +kernel
theorem dX11_plot_19 : decode cX11_plot 19 = .ok (.tableswitch 91 0 4 #[33, 48, 63, 78, 85], 33) := by decide +kernel
theorem dX11_plot_52 : decode cX11_plot 52 = .ok (.aload_n 0, 1) := by decide +kernel
theorem dX11_plot_53 : decode cX11_plot 53 = .ok (.getfield 52, 3) := by decide +kernel
theorem dX11_plot_56 : decode cX11_plot 56 = .ok (.bipush 7, 2) := by decide +kernel
theorem dX11_plot_58 : decode cX11_plot 58 = .ok (.aload_n 0, 1) := by decide +kernel
theorem dX11_plot_59 : decode cX11_plot 59 = .ok (.getfield 254, 3) := by decide +kernel
theorem dX11_plot_62 : decode cX11_plot 62 = .ok (.imul, 1) := by decide +kernel
theorem dX11_plot_63 : decode cX11_plot 63 = .ok (.iload_n 1, 1) := by decide +kernel
theorem dX11_plot_64 : decode cX11_plot 64 = .ok (.iadd, 1) := by decide +kernel
theorem dX11_plot_65 : decode cX11_plot 65 = .ok (.iaload, 1) := by decide +kernel
theorem dX11_plot_66 : decode cX11_plot 66 = .ok (.ireturn, 1) := by decide +kernel
theorem dX11_plot_67 : decode cX11_plot 67 = .ok (.aload_n 0, 1) := by decide +kernel
theorem dX11_plot_68 : decode cX11_plot 68 = .ok (.getfield 55, 3) := by decide +kernel
theorem dX11_plot_71 : decode cX11_plot 71 = .ok (.bipush 7, 2) := by decide +kernel
theorem dX11_plot_73 : decode cX11_plot 73 = .ok (.aload_n 0, 1) := by decide +kernel
theorem dX11_plot_74 : decode cX11_plot 74 = .ok (.getfield 254, 3) := by decide +kernel
theorem dX11_plot_77 : decode cX11_plot 77 = .ok (.imul, 1) := by decide +kernel
theorem dX11_plot_78 : decode cX11_plot 78 = .ok (.iload_n 1, 1) := by decide +kernel
theorem dX11_plot_79 : decode cX11_plot 79 = .ok (.iadd, 1) := by decide +kernel
theorem dX11_plot_80 : decode cX11_plot 80 = .ok (.iaload, 1) := by decide +kernel
theorem dX11_plot_81 : decode cX11_plot 81 = .ok (.ireturn, 1) := by decide +kernel
theorem dX11_plot_82 : decode cX11_plot 82 = .ok (.aload_n 0, 1) := by decide +kernel
theorem dX11_plot_83 : decode cX11_plot 83 = .ok (.getfield 58, 3) := by decide +kernel
theorem dX11_plot_86 : decode cX11_plot 86 = .ok (.bipush 7, 2) := by decide +kernel
theorem dX11_plot_88 : decode cX11_plot 88 = .ok (.aload_n 0, 1) := by decide +kernel
theorem dX11_plot_89 : decode cX11_plot 89 = .ok (.getfield 254, 3) := by decide +kernel
theorem dX11_plot_92 : decode cX11_plot 92 = .ok (.imul, 1) := by decide +kernel
theorem dX11_plot_93 : decode cX11_plot 93 = .ok (.iload_n 1, 1) := by decide +kernel
theorem dX11_plot_94 : decode cX11_plot 94 = .ok (.iadd, 1) := by decide +kernel
theorem dX11_plot_95 : decode cX11_plot 95 = .ok (.iaload, 1) := by decide +kernel
theorem dX11_plot_96 : decode cX11_plot 96 = .ok (.ireturn, 1) := by decide +kernel
theorem dX11_plot_97 : decode cX11_plot 97 = .ok (.aload_n 0, 1) := by decide +kernel
theorem dX11_plot_98 : decode cX11_plot 98 = .ok (.getfield 137, 3) := by decide +kernel
theorem dX11_plot_101 : decode cX11_plot 101 = .ok (.iload_n 1, 1) := by decide +kernel
theorem dX11_plot_102 : decode cX11_plot 102 = .ok (.iaload, 1) := by decide +kernel
theorem dX11_plot_103 : decode cX11_plot 103 = .ok (.ireturn, 1) := by decide +kernel
theorem dX11_plot_104 : decode cX11_plot 104 = .ok (.aload_n 0, 1) := by decide +kernel
theorem dX11_plot_105 : decode cX11_plot 105 = .ok (.iload_n 1, 1) := by decide +kernel
theorem dX11_plot_106 : decode cX11_plot 106 = .ok (.invokevirtual 406, 3) := by decide +kernel
theorem dX11_plot_109 : decode cX11_plot 109 = .ok (.ireturn, 1) := by decide +kernel
theorem dX11_plot_110 : decode cX11_plot 110 = .ok (.iconst (-1), 1) := by decide +kernel
theorem dX11_plot_111 : decode cX11_plot 111 = .ok (.ireturn, 1) := by decide +kernel
theorem dX11_witness_0 : decode cX11_witness 0 = .ok (.aload_n 0, 1) := by decide +kernel
theorem dX11_witness_1 : decode cX11_witness 1 = .ok (.iload_n 1, 1) := by decide +kernel
theorem dX11_witness_2 : decode cX11_witness 2 = .ok (.invokevirtual 409, 3) := by decide +kernel
theorem dX11_witness_5 : decode cX11_witness 5 = .ok (.ifCond .ne 5, 3) := by decide +kernel
theorem dX11_witness_8 : decode cX11_witness 8 = .ok (.iconst (-1), 1) := by decide +kernel
theorem dX11_witness_9 : decode cX11_witness 9 = .ok (.ireturn, 1) := by decide +kernel
theorem dX11_witness_10 : decode cX11_witness 10 = .ok (.aload_n 0, 1) := by decide +kernel
theorem dX11_witness_11 : decode cX11_witness 11 = .ok (.invokevirtual 400, 3) := by decide +kernel
theorem dX11_witness_14 : decode cX11_witness 14 = .ok (.iload_n 2, 1) := by decide +kernel
theorem dX11_witness_15 : decode cX11_witness 15 = .ok (.tableswitch 109 0 4 #[33, 40, 55, 65, 103], 33) := by decide +kernel
theorem dX11_witness_48 : decode cX11_witness 48 = .ok (.aload_n 0, 1) := by decide +kernel
theorem dX11_witness_49 : decode cX11_witness 49 = .ok (.getfield 134, 3) := by decide +kernel
theorem dX11_witness_52 : decode cX11_witness 52 = .ok (.iload_n 1, 1) := by decide +kernel
theorem dX11_witness_53 : decode cX11_witness 53 = .ok (.iaload, 1) := by decide +kernel
theorem dX11_witness_54 : decode cX11_witness 54 = .ok (.ireturn, 1) := by decide +kernel
theorem dX11_witness_55 : decode cX11_witness 55 = .ok (.aload_n 0, 1) := by decide +kernel
theorem dX11_witness_56 : decode cX11_witness 56 = .ok (.getfield 67, 3) := by decide +kernel
theorem dX11_witness_59 : decode cX11_witness 59 = .ok (.bipush 7, 2) := by decide +kernel
theorem dX11_witness_61 : decode cX11_witness 61 = .ok (.aload_n 0, 1) := by decide +kernel
theorem dX11_witness_62 : decode cX11_witness 62 = .ok (.getfield 254, 3) := by decide +kernel
theorem dX11_witness_65 : decode cX11_witness 65 = .ok (.imul, 1) := by decide +kernel
theorem dX11_witness_66 : decode cX11_witness 66 = .ok (.iload_n 1, 1) := by decide +kernel
theorem dX11_witness_67 : decode cX11_witness 67 = .ok (.iadd, 1) := by decide +kernel
theorem dX11_witness_68 : decode cX11_witness 68 = .ok (.iaload, 1) := by decide +kernel
theorem dX11_witness_69 : decode cX11_witness 69 = .ok (.ireturn, 1) := by decide +kernel
theorem dX11_witness_70 : decode cX11_witness 70 = .ok (.aload_n 0, 1) := by decide +kernel
theorem dX11_witness_71 : decode cX11_witness 71 = .ok (.getfield 134, 3) := by decide +kernel
theorem dX11_witness_74 : decode cX11_witness 74 = .ok (.bipush 7, 2) := by decide +kernel
theorem dX11_witness_76 : decode cX11_witness 76 = .ok (.iload_n 1, 1) := by decide +kernel
theorem dX11_witness_77 : decode cX11_witness 77 = .ok (.iadd, 1) := by decide +kernel
theorem dX11_witness_78 : decode cX11_witness 78 = .ok (.iaload, 1) := by decide +kernel
theorem dX11_witness_79 : decode cX11_witness 79 = .ok (.ireturn, 1) := by decide +kernel
theorem dX11_witness_80 : decode cX11_witness 80 = .ok (.iconst 0, 1) := by decide +kernel
theorem dX11_witness_81 : decode cX11_witness 81 = .ok (.istore_n 3, 1) := by decide +kernel
theorem dX11_witness_82 : decode cX11_witness 82 = .ok (.iconst 0, 1) := by decide +kernel
theorem dX11_witness_83 : decode cX11_witness 83 = .ok (.istore 4, 2) := by decide +kernel
theorem dX11_witness_85 : decode cX11_witness 85 = .ok (.iload 4, 2) := by decide +kernel
theorem dX11_witness_87 : decode cX11_witness 87 = .ok (.aload_n 0, 1) := by decide +kernel
theorem dX11_witness_88 : decode cX11_witness 88 = .ok (.getfield 134, 3) := by decide +kernel
theorem dX11_witness_91 : decode cX11_witness 91 = .ok (.bipush 15, 2) := by decide +kernel
theorem dX11_witness_93 : decode cX11_witness 93 = .ok (.iaload, 1) := by decide +kernel
theorem dX11_witness_94 : decode cX11_witness 94 = .ok (.if_icmp .ge 22, 3) := by decide +kernel
theorem dX11_witness_97 : decode cX11_witness 97 = .ok (.aload_n 0, 1) := by decide +kernel
theorem dX11_witness_98 : decode cX11_witness 98 = .ok (.iload_n 1, 1) := by decide +kernel
theorem dX11_witness_99 : decode cX11_witness 99 = .ok (.iload 4, 2) := by decide +kernel
theorem dX11_witness_101 : decode cX11_witness 101 = .ok (.invokevirtual 378, 3) := by decide +kernel
theorem dX11_witness_104 : decode cX11_witness 104 = .ok (.ifCond .eq 6, 3) := by decide +kernel
theorem dX11_witness_107 : decode cX11_witness 107 = .ok (.iinc 3 1, 3) := by decide +kernel
theorem dX11_witness_110 : decode cX11_witness 110 = .ok (.iinc 4 1, 3) := by decide +kernel
theorem dX11_witness_113 : decode cX11_witness 113 = .ok (.goto (-28), 3) := by decide +kernel
theorem dX11_witness_116 : decode cX11_witness 116 = .ok (.iload_n 3, 1) := by decide +kernel
theorem dX11_witness_117 : decode cX11_witness 117 = .ok (.ireturn, 1) := by decide +kernel
theorem dX11_witness_118 : decode cX11_witness 118 = .ok (.aload_n 0, 1) := by decide +kernel
theorem dX11_witness_119 : decode cX11_witness 119 = .ok (.iload_n 1, 1) := by decide +kernel
theorem dX11_witness_120 : decode cX11_witness 120 = .ok (.invokevirtual 391, 3) := by decide +kernel
theorem dX11_witness_123 : decode cX11_witness 123 = .ok (.ireturn, 1) := by decide +kernel
theorem dX11_witness_124 : decode cX11_witness 124 = .ok (.iconst (-1), 1) := by decide +kernel
theorem dX11_witness_125 : decode cX11_witness 125 = .ok (.ireturn, 1) := by decide +kernel
theorem dX11_giving_0 : decode cX11_giving 0 = .ok (.aload_n 0, 1) := by decide +kernel
theorem dX11_giving_1 : decode cX11_giving 1 = .ok (.iload_n 1, 1) := by decide +kernel
theorem dX11_giving_2 : decode cX11_giving 2 = .ok (.invokevirtual 412, 3) := by decide +kernel
theorem dX11_giving_5 : decode cX11_giving 5 = .ok (.ifCond .ne 5, 3) := by decide +kernel
theorem dX11_giving_8 : decode cX11_giving 8 = .ok (.iconst (-1), 1) := by decide +kernel
theorem dX11_giving_9 : decode cX11_giving 9 = .ok (.ireturn, 1) := by decide +kernel
theorem dX11_giving_10 : decode cX11_giving 10 = .ok (.aload_n 0, 1) := by decide +kernel
theorem dX11_giving_11 : decode cX11_giving 11 = .ok (.invokevirtual 400, 3) := by decide +kernel
theorem dX11_giving_14 : decode cX11_giving 14 = .ok (.aload_n 0, 1) := by decide +kernel
theorem dX11_giving_15 : decode cX11_giving 15 = .ok (.invokevirtual 403, 3) := by decide +kernel
theorem dX11_giving_18 : decode cX11_giving 18 = .ok (.iload_n 2, 1) := by decide +kernel
theorem dX11_giving_19 : decode cX11_giving 19 = .ok (.tableswitch 140 0 8 #[49, 49, 49, 64, 82, 92, 98, 113, 128], 49) := by decide +kernel
theorem dX11_giving_68 : decode cX11_giving 68 = .ok (.aload_n 0, 1) := by decide +kernel
theorem dX11_giving_69 : decode cX11_giving 69 = .ok (.getfield 134, 3) := by decide +kernel
theorem dX11_giving_72 : decode cX11_giving 72 = .ok (.bipush 17, 2) := by decide +kernel
theorem dX11_giving_74 : decode cX11_giving 74 = .ok (.bipush 20, 2) := by decide +kernel
theorem dX11_giving_76 : decode cX11_giving 76 = .ok (.iload_n 2, 1) := by decide +kernel
theorem dX11_giving_77 : decode cX11_giving 77 = .ok (.imul, 1) := by decide +kernel
theorem dX11_giving_78 : decode cX11_giving 78 = .ok (.iadd, 1) := by decide +kernel
theorem dX11_giving_79 : decode cX11_giving 79 = .ok (.iload_n 1, 1) := by decide +kernel
theorem dX11_giving_80 : decode cX11_giving 80 = .ok (.iadd, 1) := by decide +kernel
theorem dX11_giving_81 : decode cX11_giving 81 = .ok (.iaload, 1) := by decide +kernel
theorem dX11_giving_82 : decode cX11_giving 82 = .ok (.ireturn, 1) := by decide +kernel
theorem dX11_giving_83 : decode cX11_giving 83 = .ok (.aload_n 0, 1) := by decide +kernel
theorem dX11_giving_84 : decode cX11_giving 84 = .ok (.getfield 134, 3) := by decide +kernel
theorem dX11_giving_87 : decode cX11_giving 87 = .ok (.bipush 14, 2) := by decide +kernel
theorem dX11_giving_89 : decode cX11_giving 89 = .ok (.iaload, 1) := by decide +kernel
theorem dX11_giving_90 : decode cX11_giving 90 = .ok (.aload_n 0, 1) := by decide +kernel
theorem dX11_giving_91 : decode cX11_giving 91 = .ok (.getfield 134, 3) := by decide +kernel
theorem dX11_giving_94 : decode cX11_giving 94 = .ok (.bipush 77, 2) := by decide +kernel
theorem dX11_giving_96 : decode cX11_giving 96 = .ok (.iload_n 1, 1) := by decide +kernel
theorem dX11_giving_97 : decode cX11_giving 97 = .ok (.iadd, 1) := by decide +kernel
theorem dX11_giving_98 : decode cX11_giving 98 = .ok (.iaload, 1) := by decide +kernel
theorem dX11_giving_99 : decode cX11_giving 99 = .ok (.isub, 1) := by decide +kernel
theorem dX11_giving_100 : decode cX11_giving 100 = .ok (.ireturn, 1) := by decide +kernel
theorem dX11_giving_101 : decode cX11_giving 101 = .ok (.aload_n 0, 1) := by decide +kernel
theorem dX11_giving_102 : decode cX11_giving 102 = .ok (.getfield 134, 3) := by decide +kernel
theorem dX11_giving_105 : decode cX11_giving 105 = .ok (.bipush 97, 2) := by decide +kernel
theorem dX11_giving_107 : decode cX11_giving 107 = .ok (.iload_n 1, 1) := by decide +kernel
theorem dX11_giving_108 : decode cX11_giving 108 = .ok (.iadd, 1) := by decide +kernel
theorem dX11_giving_109 : decode cX11_giving 109 = .ok (.iaload, 1) := by decide +kernel
theorem dX11_giving_110 : decode cX11_giving 110 = .ok (.ireturn, 1) := by decide +kernel
theorem dX11_giving_111 : decode cX11_giving 111 = .ok (.aload_n 0, 1) := by decide +kernel
theorem dX11_giving_112 : decode cX11_giving 112 = .ok (.iload_n 1, 1) := by decide +kernel
theorem dX11_giving_113 : decode cX11_giving 113 = .ok (.invokevirtual 382, 3) := by decide +kernel
theorem dX11_giving_116 : decode cX11_giving 116 = .ok (.ireturn, 1) := by decide +kernel
theorem dX11_giving_117 : decode cX11_giving 117 = .ok (.aload_n 0, 1) := by decide +kernel
theorem dX11_giving_118 : decode cX11_giving 118 = .ok (.getfield 140, 3) := by decide +kernel
theorem dX11_giving_121 : decode cX11_giving 121 = .ok (.iload_n 1, 1) := by decide +kernel
theorem dX11_giving_122 : decode cX11_giving 122 = .ok (.baload, 1) := by decide +kernel
theorem dX11_giving_123 : decode cX11_giving 123 = .ok (.ifCond .eq 7, 3) := by decide +kernel
theorem dX11_giving_126 : decode cX11_giving 126 = .ok (.iconst 1, 1) := by decide +kernel
theorem dX11_giving_127 : decode cX11_giving 127 = .ok (.goto 4, 3) := by decide +kernel
theorem dX11_giving_130 : decode cX11_giving 130 = .ok (.iconst 0, 1) := by decide +kernel
theorem dX11_giving_131 : decode cX11_giving 131 = .ok (.ireturn, 1) := by decide +kernel
theorem dX11_giving_132 : decode cX11_giving 132 = .ok (.aload_n 0, 1) := by decide +kernel
theorem dX11_giving_133 : decode cX11_giving 133 = .ok (.getfield 143, 3) := by decide +kernel
theorem dX11_giving_136 : decode cX11_giving 136 = .ok (.iload_n 1, 1) := by decide +kernel
theorem dX11_giving_137 : decode cX11_giving 137 = .ok (.baload, 1) := by decide +kernel
theorem dX11_giving_138 : decode cX11_giving 138 = .ok (.ifCond .eq 7, 3) := by decide +kernel
theorem dX11_giving_141 : decode cX11_giving 141 = .ok (.iconst 1, 1) := by decide +kernel
theorem dX11_giving_142 : decode cX11_giving 142 = .ok (.goto 4, 3) := by decide +kernel
theorem dX11_giving_145 : decode cX11_giving 145 = .ok (.iconst 0, 1) := by decide +kernel
theorem dX11_giving_146 : decode cX11_giving 146 = .ok (.ireturn, 1) := by decide +kernel
theorem dX11_giving_147 : decode cX11_giving 147 = .ok (.aload_n 0, 1) := by decide +kernel
theorem dX11_giving_148 : decode cX11_giving 148 = .ok (.getfield 134, 3) := by decide +kernel
theorem dX11_giving_151 : decode cX11_giving 151 = .ok (.bipush 16, 2) := by decide +kernel
theorem dX11_giving_153 : decode cX11_giving 153 = .ok (.iaload, 1) := by decide +kernel
theorem dX11_giving_154 : decode cX11_giving 154 = .ok (.iload_n 1, 1) := by decide +kernel
theorem dX11_giving_155 : decode cX11_giving 155 = .ok (.ishr, 1) := by decide +kernel
theorem dX11_giving_156 : decode cX11_giving 156 = .ok (.iconst 1, 1) := by decide +kernel
theorem dX11_giving_157 : decode cX11_giving 157 = .ok (.iand, 1) := by decide +kernel
theorem dX11_giving_158 : decode cX11_giving 158 = .ok (.ireturn, 1) := by decide +kernel
theorem dX11_giving_159 : decode cX11_giving 159 = .ok (.iconst (-1), 1) := by decide +kernel
theorem dX11_giving_160 : decode cX11_giving 160 = .ok (.ireturn, 1) := by decide +kernel
theorem dX11_records_0 : decode cX11_records 0 = .ok (.aload_n 0, 1) := by decide +kernel
theorem dX11_records_1 : decode cX11_records 1 = .ok (.getfield 272, 3) := by decide +kernel
theorem dX11_records_4 : decode cX11_records 4 = .ok (.bipush 30, 2) := by decide +kernel
theorem dX11_records_6 : decode cX11_records 6 = .ok (.if_icmp .ne 43, 3) := by decide +kernel
theorem dX11_records_9 : decode cX11_records 9 = .ok (.iconst 0, 1) := by decide +kernel
theorem dX11_records_10 : decode cX11_records 10 = .ok (.istore_n 1, 1) := by decide +kernel
theorem dX11_records_11 : decode cX11_records 11 = .ok (.iload_n 1, 1) := by decide +kernel
theorem dX11_records_12 : decode cX11_records 12 = .ok (.sipush 3393, 3) := by decide +kernel
theorem dX11_records_15 : decode cX11_records 15 = .ok (.if_icmp .ge 24, 3) := by decide +kernel
theorem dX11_records_18 : decode cX11_records 18 = .ok (.aload_n 0, 1) := by decide +kernel
theorem dX11_records_19 : decode cX11_records 19 = .ok (.getfield 146, 3) := by decide +kernel
theorem dX11_records_22 : decode cX11_records 22 = .ok (.iload_n 1, 1) := by decide +kernel
theorem dX11_records_23 : decode cX11_records 23 = .ok (.aload_n 0, 1) := by decide +kernel
theorem dX11_records_24 : decode cX11_records 24 = .ok (.getfield 146, 3) := by decide +kernel
theorem dX11_records_27 : decode cX11_records 27 = .ok (.iload_n 1, 1) := by decide +kernel
theorem dX11_records_28 : decode cX11_records 28 = .ok (.bipush 117, 2) := by decide +kernel
theorem dX11_records_30 : decode cX11_records 30 = .ok (.iadd, 1) := by decide +kernel
theorem dX11_records_31 : decode cX11_records 31 = .ok (.iaload, 1) := by decide +kernel
theorem dX11_records_32 : decode cX11_records 32 = .ok (.iastore, 1) := by decide +kernel
theorem dX11_records_33 : decode cX11_records 33 = .ok (.iinc 1 1, 3) := by decide +kernel
theorem dX11_records_36 : decode cX11_records 36 = .ok (.goto (-25), 3) := by decide +kernel
theorem dX11_records_39 : decode cX11_records 39 = .ok (.aload_n 0, 1) := by decide +kernel
theorem dX11_records_40 : decode cX11_records 40 = .ok (.dup, 1) := by decide +kernel
theorem dX11_records_41 : decode cX11_records 41 = .ok (.getfield 272, 3) := by decide +kernel
theorem dX11_records_44 : decode cX11_records 44 = .ok (.iconst 1, 1) := by decide +kernel
theorem dX11_records_45 : decode cX11_records 45 = .ok (.isub, 1) := by decide +kernel
theorem dX11_records_46 : decode cX11_records 46 = .ok (.putfield 272, 3) := by decide +kernel
theorem dX11_records_49 : decode cX11_records 49 = .ok (.iconst 0, 1) := by decide +kernel
theorem dX11_records_50 : decode cX11_records 50 = .ok (.istore_n 1, 1) := by decide +kernel
theorem dX11_records_51 : decode cX11_records 51 = .ok (.iload_n 1, 1) := by decide +kernel
theorem dX11_records_52 : decode cX11_records 52 = .ok (.bipush 117, 2) := by decide +kernel
theorem dX11_records_54 : decode cX11_records 54 = .ok (.if_icmp .ge 29, 3) := by decide +kernel
theorem dX11_records_57 : decode cX11_records 57 = .ok (.aload_n 0, 1) := by decide +kernel
theorem dX11_records_58 : decode cX11_records 58 = .ok (.getfield 146, 3) := by decide +kernel
theorem dX11_records_61 : decode cX11_records 61 = .ok (.bipush 117, 2) := by decide +kernel
theorem dX11_records_63 : decode cX11_records 63 = .ok (.aload_n 0, 1) := by decide +kernel
theorem dX11_records_64 : decode cX11_records 64 = .ok (.getfield 272, 3) := by decide +kernel
theorem dX11_records_67 : decode cX11_records 67 = .ok (.imul, 1) := by decide +kernel
theorem dX11_records_68 : decode cX11_records 68 = .ok (.iload_n 1, 1) := by decide +kernel
theorem dX11_records_69 : decode cX11_records 69 = .ok (.iadd, 1) := by decide +kernel
theorem dX11_records_70 : decode cX11_records 70 = .ok (.aload_n 0, 1) := by decide +kernel
theorem dX11_records_71 : decode cX11_records 71 = .ok (.getfield 131, 3) := by decide +kernel
theorem dX11_records_74 : decode cX11_records 74 = .ok (.iload_n 1, 1) := by decide +kernel
theorem dX11_records_75 : decode cX11_records 75 = .ok (.iaload, 1) := by decide +kernel
theorem dX11_records_76 : decode cX11_records 76 = .ok (.iastore, 1) := by decide +kernel
theorem dX11_records_77 : decode cX11_records 77 = .ok (.iinc 1 1, 3) := by decide +kernel
theorem dX11_records_80 : decode cX11_records 80 = .ok (.goto (-29), 3) := by decide +kernel
theorem dX11_records_83 : decode cX11_records 83 = .ok (.aload_n 0, 1) := by decide +kernel
theorem dX11_records_84 : decode cX11_records 84 = .ok (.dup, 1) := by decide +kernel
theorem dX11_records_85 : decode cX11_records 85 = .ok (.getfield 272, 3) := by decide +kernel
theorem dX11_records_88 : decode cX11_records 88 = .ok (.iconst 1, 1) := by decide +kernel
theorem dX11_records_89 : decode cX11_records 89 = .ok (.iadd, 1) := by decide +kernel
theorem dX11_records_90 : decode cX11_records 90 = .ok (.putfield 272, 3) := by decide +kernel
theorem dX11_records_93 : decode cX11_records 93 = .ok (.aload_n 0, 1) := by decide +kernel
theorem dX11_records_94 : decode cX11_records 94 = .ok (.invokevirtual 184, 3) := by decide +kernel
theorem dX11_records_97 : decode cX11_records 97 = .ok (.return_, 1) := by decide +kernel
theorem dX11_areAlive_0 : decode cX11_areAlive 0 = .ok (.iconst 0, 1) := by decide +kernel
theorem dX11_areAlive_1 : decode cX11_areAlive 1 = .ok (.istore_n 2, 1) := by decide +kernel
theorem dX11_areAlive_2 : decode cX11_areAlive 2 = .ok (.iload_n 2, 1) := by decide +kernel
theorem dX11_areAlive_3 : decode cX11_areAlive 3 = .ok (.bipush 7, 2) := by decide +kernel
theorem dX11_areAlive_5 : decode cX11_areAlive 5 = .ok (.if_icmp .ge 32, 3) := by decide +kernel
theorem dX11_areAlive_8 : decode cX11_areAlive 8 = .ok (.iload_n 1, 1) := by decide +kernel
theorem dX11_areAlive_9 : decode cX11_areAlive 9 = .ok (.iload_n 2, 1) := by decide +kernel
theorem dX11_areAlive_10 : decode cX11_areAlive 10 = .ok (.ishr, 1) := by decide +kernel
theorem dX11_areAlive_11 : decode cX11_areAlive 11 = .ok (.iconst 1, 1) := by decide +kernel
theorem dX11_areAlive_12 : decode cX11_areAlive 12 = .ok (.iand, 1) := by decide +kernel
theorem dX11_areAlive_13 : decode cX11_areAlive 13 = .ok (.iconst 1, 1) := by decide +kernel
theorem dX11_areAlive_14 : decode cX11_areAlive 14 = .ok (.if_icmp .ne 17, 3) := by decide +kernel
theorem dX11_areAlive_17 : decode cX11_areAlive 17 = .ok (.aload_n 0, 1) := by decide +kernel
theorem dX11_areAlive_18 : decode cX11_areAlive 18 = .ok (.getfield 131, 3) := by decide +kernel
theorem dX11_areAlive_21 : decode cX11_areAlive 21 = .ok (.bipush 7, 2) := by decide +kernel
theorem dX11_areAlive_23 : decode cX11_areAlive 23 = .ok (.iload_n 2, 1) := by decide +kernel
theorem dX11_areAlive_24 : decode cX11_areAlive 24 = .ok (.iadd, 1) := by decide +kernel
theorem dX11_areAlive_25 : decode cX11_areAlive 25 = .ok (.iaload, 1) := by decide +kernel
theorem dX11_areAlive_26 : decode cX11_areAlive 26 = .ok (.ifCond .ne 5, 3) := by decide +kernel
theorem dX11_areAlive_29 : decode cX11_areAlive 29 = .ok (.iconst 0, 1) := by decide +kernel
theorem dX11_areAlive_30 : decode cX11_areAlive 30 = .ok (.ireturn, 1) := by decide +kernel
theorem dX11_areAlive_31 : decode cX11_areAlive 31 = .ok (.iinc 2 1, 3) := by decide +kernel
theorem dX11_areAlive_34 : decode cX11_areAlive 34 = .ok (.goto (-32), 3) := by decide +kernel
theorem dX11_areAlive_37 : decode cX11_areAlive 37 = .ok (.iconst 1, 1) := by decide +kernel
theorem dX11_areAlive_38 : decode cX11_areAlive 38 = .ok (.ireturn, 1) := by decide +kernel
theorem dX11_give_0 : decode cX11_give 0 = .ok (.aload_n 0, 1) := by decide +kernel
theorem dX11_give_1 : decode cX11_give 1 = .ok (.iload_n 1, 1) := by decide +kernel
theorem dX11_give_2 : decode cX11_give 2 = .ok (.invokevirtual 397, 3) := by decide +kernel
theorem dX11_give_5 : decode cX11_give 5 = .ok (.ifCond .eq 46, 3) := by decide +kernel
theorem dX11_give_8 : decode cX11_give 8 = .ok (.aload_n 0, 1) := by decide +kernel
theorem dX11_give_9 : decode cX11_give 9 = .ok (.iload_n 2, 1) := by decide +kernel
theorem dX11_give_10 : decode cX11_give 10 = .ok (.invokevirtual 415, 3) := by decide +kernel
theorem dX11_give_13 : decode cX11_give 13 = .ok (.ifCond .eq 38, 3) := by decide +kernel
theorem dX11_give_16 : decode cX11_give 16 = .ok (.aload_n 0, 1) := by decide +kernel
theorem dX11_give_17 : decode cX11_give 17 = .ok (.iload_n 3, 1) := by decide +kernel
theorem dX11_give_18 : decode cX11_give 18 = .ok (.invokevirtual 415, 3) := by decide +kernel
theorem dX11_give_21 : decode cX11_give 21 = .ok (.ifCond .eq 30, 3) := by decide +kernel
theorem dX11_give_24 : decode cX11_give 24 = .ok (.iload_n 2, 1) := by decide +kernel
theorem dX11_give_25 : decode cX11_give 25 = .ok (.iload_n 3, 1) := by decide +kernel
theorem dX11_give_26 : decode cX11_give 26 = .ok (.if_icmp .eq 25, 3) := by decide +kernel
theorem dX11_give_29 : decode cX11_give 29 = .ok (.iload 4, 2) := by decide +kernel
theorem dX11_give_31 : decode cX11_give 31 = .ok (.iconst 0, 1) := by decide +kernel
theorem dX11_give_32 : decode cX11_give 32 = .ok (.iconst 1, 1) := by decide +kernel
theorem dX11_give_33 : decode cX11_give 33 = .ok (.aload_n 0, 1) := by decide +kernel
theorem dX11_give_34 : decode cX11_give 34 = .ok (.getfield 61, 3) := by decide +kernel
theorem dX11_give_37 : decode cX11_give 37 = .ok (.aload_n 0, 1) := by decide +kernel
theorem dX11_give_38 : decode cX11_give 38 = .ok (.getfield 254, 3) := by decide +kernel
theorem dX11_give_41 : decode cX11_give 41 = .ok (.iaload, 1) := by decide +kernel
theorem dX11_give_42 : decode cX11_give 42 = .ok (.ishl, 1) := by decide +kernel
theorem dX11_give_43 : decode cX11_give 43 = .ok (.iconst 1, 1) := by decide +kernel
theorem dX11_give_44 : decode cX11_give 44 = .ok (.isub, 1) := by decide +kernel
theorem dX11_give_45 : decode cX11_give 45 = .ok (.invokestatic 340, 3) := by decide +kernel
theorem dX11_give_48 : decode cX11_give 48 = .ok (.ifCond .ne 5, 3) := by decide +kernel
theorem dX11_give_51 : decode cX11_give 51 = .ok (.iconst (-1), 1) := by decide +kernel
theorem dX11_give_52 : decode cX11_give 52 = .ok (.ireturn, 1) := by decide +kernel
theorem dX11_give_53 : decode cX11_give 53 = .ok (.aload_n 0, 1) := by decide +kernel
theorem dX11_give_54 : decode cX11_give 54 = .ok (.getfield 131, 3) := by decide +kernel
theorem dX11_give_57 : decode cX11_give 57 = .ok (.bipush 15, 2) := by decide +kernel
theorem dX11_give_59 : decode cX11_give 59 = .ok (.iaload, 1) := by decide +kernel
theorem dX11_give_60 : decode cX11_give 60 = .ok (.bipush 20, 2) := by decide +kernel
theorem dX11_give_62 : decode cX11_give 62 = .ok (.if_icmp .eq 12, 3) := by decide +kernel
theorem dX11_give_65 : decode cX11_give 65 = .ok (.aload_n 0, 1) := by decide +kernel
theorem dX11_give_66 : decode cX11_give 66 = .ok (.iload 4, 2) := by decide +kernel
theorem dX11_give_68 : decode cX11_give 68 = .ok (.invokevirtual 418, 3) := by decide +kernel
theorem dX11_give_71 : decode cX11_give 71 = .ok (.ifCond .ne 6, 3) := by decide +kernel
theorem dX11_give_74 : decode cX11_give 74 = .ok (.bipush (-2), 2) := by decide +kernel
theorem dX11_give_76 : decode cX11_give 76 = .ok (.ireturn, 1) := by decide +kernel
theorem dX11_give_77 : decode cX11_give 77 = .ok (.aload_n 0, 1) := by decide +kernel
theorem dX11_give_78 : decode cX11_give 78 = .ok (.invokevirtual 400, 3) := by decide +kernel
theorem dX11_give_81 : decode cX11_give 81 = .ok (.aload_n 0, 1) := by decide +kernel
theorem dX11_give_82 : decode cX11_give 82 = .ok (.getfield 134, 3) := by decide +kernel
theorem dX11_give_85 : decode cX11_give 85 = .ok (.bipush 15, 2) := by decide +kernel
theorem dX11_give_87 : decode cX11_give 87 = .ok (.iaload, 1) := by decide +kernel
theorem dX11_give_88 : decode cX11_give 88 = .ok (.istore 5, 2) := by decide +kernel
theorem dX11_give_90 : decode cX11_give 90 = .ok (.aload_n 0, 1) := by decide +kernel
theorem dX11_give_91 : decode cX11_give 91 = .ok (.getfield 134, 3) := by decide +kernel
theorem dX11_give_94 : decode cX11_give 94 = .ok (.bipush 15, 2) := by decide +kernel
theorem dX11_give_96 : decode cX11_give 96 = .ok (.dup2, 1) := by decide +kernel
theorem dX11_give_97 : decode cX11_give 97 = .ok (.iaload, 1) := by decide +kernel
theorem dX11_give_98 : decode cX11_give 98 = .ok (.iconst 1, 1) := by decide +kernel
theorem dX11_give_99 : decode cX11_give 99 = .ok (.iadd, 1) := by decide +kernel
theorem dX11_give_100 : decode cX11_give 100 = .ok (.iastore, 1) := by decide +kernel
theorem dX11_give_101 : decode cX11_give 101 = .ok (.aload_n 0, 1) := by decide +kernel
theorem dX11_give_102 : decode cX11_give 102 = .ok (.getfield 134, 3) := by decide +kernel
theorem dX11_give_105 : decode cX11_give 105 = .ok (.bipush 17, 2) := by decide +kernel
theorem dX11_give_107 : decode cX11_give 107 = .ok (.iload 5, 2) := by decide +kernel
theorem dX11_give_109 : decode cX11_give 109 = .ok (.iadd, 1) := by decide +kernel
theorem dX11_give_110 : decode cX11_give 110 = .ok (.iload_n 1, 1) := by decide +kernel
theorem dX11_give_111 : decode cX11_give 111 = .ok (.iastore, 1) := by decide +kernel
theorem dX11_give_112 : decode cX11_give 112 = .ok (.aload_n 0, 1) := by decide +kernel
theorem dX11_give_113 : decode cX11_give 113 = .ok (.getfield 134, 3) := by decide +kernel
theorem dX11_give_116 : decode cX11_give 116 = .ok (.bipush 37, 2) := by decide +kernel
theorem dX11_give_118 : decode cX11_give 118 = .ok (.iload 5, 2) := by decide +kernel
theorem dX11_give_120 : decode cX11_give 120 = .ok (.iadd, 1) := by decide +kernel
theorem dX11_give_121 : decode cX11_give 121 = .ok (.iload_n 2, 1) := by decide +kernel
theorem dX11_give_122 : decode cX11_give 122 = .ok (.iastore, 1) := by decide +kernel
theorem dX11_give_123 : decode cX11_give 123 = .ok (.aload_n 0, 1) := by decide +kernel
theorem dX11_give_124 : decode cX11_give 124 = .ok (.getfield 134, 3) := by decide +kernel
theorem dX11_give_127 : decode cX11_give 127 = .ok (.bipush 57, 2) := by decide +kernel
theorem dX11_give_129 : decode cX11_give 129 = .ok (.iload 5, 2) := by decide +kernel
theorem dX11_give_131 : decode cX11_give 131 = .ok (.iadd, 1) := by decide +kernel
theorem dX11_give_132 : decode cX11_give 132 = .ok (.iload_n 3, 1) := by decide +kernel
theorem dX11_give_133 : decode cX11_give 133 = .ok (.iastore, 1) := by decide +kernel
theorem dX11_give_134 : decode cX11_give 134 = .ok (.aload_n 0, 1) := by decide +kernel
theorem dX11_give_135 : decode cX11_give 135 = .ok (.getfield 134, 3) := by decide +kernel
theorem dX11_give_138 : decode cX11_give 138 = .ok (.bipush 77, 2) := by decide +kernel
theorem dX11_give_140 : decode cX11_give 140 = .ok (.iload 5, 2) := by decide +kernel
theorem dX11_give_142 : decode cX11_give 142 = .ok (.iadd, 1) := by decide +kernel
theorem dX11_give_143 : decode cX11_give 143 = .ok (.aload_n 0, 1) := by decide +kernel
theorem dX11_give_144 : decode cX11_give 144 = .ok (.getfield 134, 3) := by decide +kernel
theorem dX11_give_147 : decode cX11_give 147 = .ok (.bipush 14, 2) := by decide +kernel
theorem dX11_give_149 : decode cX11_give 149 = .ok (.iaload, 1) := by decide +kernel
theorem dX11_give_150 : decode cX11_give 150 = .ok (.iastore, 1) := by decide +kernel
theorem dX11_give_151 : decode cX11_give 151 = .ok (.aload_n 0, 1) := by decide +kernel
theorem dX11_give_152 : decode cX11_give 152 = .ok (.getfield 134, 3) := by decide +kernel
theorem dX11_give_155 : decode cX11_give 155 = .ok (.bipush 97, 2) := by decide +kernel
theorem dX11_give_157 : decode cX11_give 157 = .ok (.iload 5, 2) := by decide +kernel
theorem dX11_give_159 : decode cX11_give 159 = .ok (.iadd, 1) := by decide +kernel
theorem dX11_give_160 : decode cX11_give 160 = .ok (.iload 4, 2) := by decide +kernel
theorem dX11_give_162 : decode cX11_give 162 = .ok (.iastore, 1) := by decide +kernel
theorem dX11_give_163 : decode cX11_give 163 = .ok (.aload_n 0, 1) := by decide +kernel
theorem dX11_give_164 : decode cX11_give 164 = .ok (.invokevirtual 421, 3) := by decide +kernel
theorem dX11_give_167 : decode cX11_give 167 = .ok (.iload 5, 2) := by decide +kernel
theorem dX11_give_169 : decode cX11_give 169 = .ok (.ireturn, 1) := by decide +kernel
theorem dX11_unsay_0 : decode cX11_unsay 0 = .ok (.aload_n 0, 1) := by decide +kernel
theorem dX11_unsay_1 : decode cX11_unsay 1 = .ok (.iload_n 1, 1) := by decide +kernel
theorem dX11_unsay_2 : decode cX11_unsay 2 = .ok (.invokevirtual 412, 3) := by decide +kernel
theorem dX11_unsay_5 : decode cX11_unsay 5 = .ok (.ifCond .eq 27, 3) := by decide +kernel
theorem dX11_unsay_8 : decode cX11_unsay 8 = .ok (.aload_n 0, 1) := by decide +kernel
theorem dX11_unsay_9 : decode cX11_unsay 9 = .ok (.getfield 131, 3) := by decide +kernel
theorem dX11_unsay_12 : decode cX11_unsay 12 = .ok (.bipush 16, 2) := by decide +kernel
theorem dX11_unsay_14 : decode cX11_unsay 14 = .ok (.iaload, 1) := by decide +kernel
theorem dX11_unsay_15 : decode cX11_unsay 15 = .ok (.iload_n 1, 1) := by decide +kernel
theorem dX11_unsay_16 : decode cX11_unsay 16 = .ok (.ishr, 1) := by decide +kernel
theorem dX11_unsay_17 : decode cX11_unsay 17 = .ok (.iconst 1, 1) := by decide +kernel
theorem dX11_unsay_18 : decode cX11_unsay 18 = .ok (.iand, 1) := by decide +kernel
theorem dX11_unsay_19 : decode cX11_unsay 19 = .ok (.iconst 1, 1) := by decide +kernel
theorem dX11_unsay_20 : decode cX11_unsay 20 = .ok (.if_icmp .ne 7, 3) := by decide +kernel
theorem dX11_unsay_23 : decode cX11_unsay 23 = .ok (.iconst 1, 1) := by decide +kernel
theorem dX11_unsay_24 : decode cX11_unsay 24 = .ok (.goto 4, 3) := by decide +kernel
theorem dX11_unsay_27 : decode cX11_unsay 27 = .ok (.iconst 0, 1) := by decide +kernel
theorem dX11_unsay_28 : decode cX11_unsay 28 = .ok (.iload_n 2, 1) := by decide +kernel
theorem dX11_unsay_29 : decode cX11_unsay 29 = .ok (.if_icmp .ne 5, 3) := by decide +kernel
theorem dX11_unsay_32 : decode cX11_unsay 32 = .ok (.iconst 0, 1) := by decide +kernel
theorem dX11_unsay_33 : decode cX11_unsay 33 = .ok (.ireturn, 1) := by decide +kernel
theorem dX11_unsay_34 : decode cX11_unsay 34 = .ok (.aload_n 0, 1) := by decide +kernel
theorem dX11_unsay_35 : decode cX11_unsay 35 = .ok (.invokevirtual 400, 3) := by decide +kernel
theorem dX11_unsay_38 : decode cX11_unsay 38 = .ok (.aload_n 0, 1) := by decide +kernel
theorem dX11_unsay_39 : decode cX11_unsay 39 = .ok (.getfield 134, 3) := by decide +kernel
theorem dX11_unsay_42 : decode cX11_unsay 42 = .ok (.bipush 16, 2) := by decide +kernel
theorem dX11_unsay_44 : decode cX11_unsay 44 = .ok (.dup2, 1) := by decide +kernel
theorem dX11_unsay_45 : decode cX11_unsay 45 = .ok (.iaload, 1) := by decide +kernel
theorem dX11_unsay_46 : decode cX11_unsay 46 = .ok (.iconst 1, 1) := by decide +kernel
theorem dX11_unsay_47 : decode cX11_unsay 47 = .ok (.iload_n 1, 1) := by decide +kernel
theorem dX11_unsay_48 : decode cX11_unsay 48 = .ok (.ishl, 1) := by decide +kernel
theorem dX11_unsay_49 : decode cX11_unsay 49 = .ok (.ixor, 1) := by decide +kernel
theorem dX11_unsay_50 : decode cX11_unsay 50 = .ok (.iastore, 1) := by decide +kernel
theorem dX11_unsay_51 : decode cX11_unsay 51 = .ok (.aload_n 0, 1) := by decide +kernel
theorem dX11_unsay_52 : decode cX11_unsay 52 = .ok (.invokevirtual 421, 3) := by decide +kernel
theorem dX11_unsay_55 : decode cX11_unsay 55 = .ok (.iconst 1, 1) := by decide +kernel
theorem dX11_unsay_56 : decode cX11_unsay 56 = .ok (.ireturn, 1) := by decide +kernel
theorem dX11_years_0 : decode cX11_years 0 = .ok (.iload_n 1, 1) := by decide +kernel
theorem dX11_years_1 : decode cX11_years 1 = .ok (.iconst 0, 1) := by decide +kernel
theorem dX11_years_2 : decode cX11_years 2 = .ok (.bipush 60, 2) := by decide +kernel
theorem dX11_years_4 : decode cX11_years 4 = .ok (.invokestatic 340, 3) := by decide +kernel
theorem dX11_years_7 : decode cX11_years 7 = .ok (.ifCond .ne 5, 3) := by decide +kernel
theorem dX11_years_10 : decode cX11_years 10 = .ok (.iconst (-1), 1) := by decide +kernel
theorem dX11_years_11 : decode cX11_years 11 = .ok (.ireturn, 1) := by decide +kernel
theorem dX11_years_12 : decode cX11_years 12 = .ok (.iload_n 1, 1) := by decide +kernel
theorem dX11_years_13 : decode cX11_years 13 = .ok (.ifCond .ne 11, 3) := by decide +kernel
theorem dX11_years_16 : decode cX11_years 16 = .ok (.aload_n 0, 1) := by decide +kernel
theorem dX11_years_17 : decode cX11_years 17 = .ok (.getfield 131, 3) := by decide +kernel
theorem dX11_years_20 : decode cX11_years 20 = .ok (.bipush 14, 2) := by decide +kernel
theorem dX11_years_22 : decode cX11_years 22 = .ok (.iaload, 1) := by decide +kernel
theorem dX11_years_23 : decode cX11_years 23 = .ok (.ireturn, 1) := by decide +kernel
theorem dX11_years_24 : decode cX11_years 24 = .ok (.aload_n 0, 1) := by decide +kernel
theorem dX11_years_25 : decode cX11_years 25 = .ok (.invokevirtual 400, 3) := by decide +kernel
theorem dX11_years_28 : decode cX11_years 28 = .ok (.aload_n 0, 1) := by decide +kernel
theorem dX11_years_29 : decode cX11_years 29 = .ok (.iload_n 1, 1) := by decide +kernel
theorem dX11_years_30 : decode cX11_years 30 = .ok (.invokevirtual 424, 3) := by decide +kernel
theorem dX11_years_33 : decode cX11_years 33 = .ok (.aload_n 0, 1) := by decide +kernel
theorem dX11_years_34 : decode cX11_years 34 = .ok (.invokevirtual 421, 3) := by decide +kernel
theorem dX11_years_37 : decode cX11_years 37 = .ok (.aload_n 0, 1) := by decide +kernel
theorem dX11_years_38 : decode cX11_years 38 = .ok (.getfield 131, 3) := by decide +kernel
theorem dX11_years_41 : decode cX11_years 41 = .ok (.bipush 14, 2) := by decide +kernel
theorem dX11_years_43 : decode cX11_years 43 = .ok (.iaload, 1) := by decide +kernel
theorem dX11_years_44 : decode cX11_years 44 = .ok (.ireturn, 1) := by decide +kernel
theorem dX11_undo_0 : decode cX11_undo 0 = .ok (.aload_n 0, 1) := by decide +kernel
theorem dX11_undo_1 : decode cX11_undo 1 = .ok (.getfield 272, 3) := by decide +kernel
theorem dX11_undo_4 : decode cX11_undo 4 = .ok (.ifCond .ne 5, 3) := by decide +kernel
theorem dX11_undo_7 : decode cX11_undo 7 = .ok (.iconst 0, 1) := by decide +kernel
theorem dX11_undo_8 : decode cX11_undo 8 = .ok (.ireturn, 1) := by decide +kernel
theorem dX11_undo_9 : decode cX11_undo 9 = .ok (.aload_n 0, 1) := by decide +kernel
theorem dX11_undo_10 : decode cX11_undo 10 = .ok (.dup, 1) := by decide +kernel
theorem dX11_undo_11 : decode cX11_undo 11 = .ok (.getfield 272, 3) := by decide +kernel
theorem dX11_undo_14 : decode cX11_undo 14 = .ok (.iconst 1, 1) := by decide +kernel
theorem dX11_undo_15 : decode cX11_undo 15 = .ok (.isub, 1) := by decide +kernel
theorem dX11_undo_16 : decode cX11_undo 16 = .ok (.putfield 272, 3) := by decide +kernel
theorem dX11_undo_19 : decode cX11_undo 19 = .ok (.iconst 0, 1) := by decide +kernel
theorem dX11_undo_20 : decode cX11_undo 20 = .ok (.istore_n 1, 1) := by decide +kernel
theorem dX11_undo_21 : decode cX11_undo 21 = .ok (.iload_n 1, 1) := by decide +kernel
theorem dX11_undo_22 : decode cX11_undo 22 = .ok (.bipush 117, 2) := by decide +kernel
theorem dX11_undo_24 : decode cX11_undo 24 = .ok (.if_icmp .ge 29, 3) := by decide +kernel
theorem dX11_undo_27 : decode cX11_undo 27 = .ok (.aload_n 0, 1) := by decide +kernel
theorem dX11_undo_28 : decode cX11_undo 28 = .ok (.getfield 131, 3) := by decide +kernel
theorem dX11_undo_31 : decode cX11_undo 31 = .ok (.iload_n 1, 1) := by decide +kernel
theorem dX11_undo_32 : decode cX11_undo 32 = .ok (.aload_n 0, 1) := by decide +kernel
theorem dX11_undo_33 : decode cX11_undo 33 = .ok (.getfield 146, 3) := by decide +kernel
theorem dX11_undo_36 : decode cX11_undo 36 = .ok (.bipush 117, 2) := by decide +kernel
theorem dX11_undo_38 : decode cX11_undo 38 = .ok (.aload_n 0, 1) := by decide +kernel
theorem dX11_undo_39 : decode cX11_undo 39 = .ok (.getfield 272, 3) := by decide +kernel
theorem dX11_undo_42 : decode cX11_undo 42 = .ok (.imul, 1) := by decide +kernel
theorem dX11_undo_43 : decode cX11_undo 43 = .ok (.iload_n 1, 1) := by decide +kernel
theorem dX11_undo_44 : decode cX11_undo 44 = .ok (.iadd, 1) := by decide +kernel
theorem dX11_undo_45 : decode cX11_undo 45 = .ok (.iaload, 1) := by decide +kernel
theorem dX11_undo_46 : decode cX11_undo 46 = .ok (.iastore, 1) := by decide +kernel
theorem dX11_undo_47 : decode cX11_undo 47 = .ok (.iinc 1 1, 3) := by decide +kernel
theorem dX11_undo_50 : decode cX11_undo 50 = .ok (.goto (-29), 3) := by decide +kernel
theorem dX11_undo_53 : decode cX11_undo 53 = .ok (.iconst 1, 1) := by decide +kernel
theorem dX11_undo_54 : decode cX11_undo 54 = .ok (.ireturn, 1) := by decide +kernel
theorem dX11_lasts_0 : decode cX11_lasts 0 = .ok (.aload_n 0, 1) := by decide +kernel
theorem dX11_lasts_1 : decode cX11_lasts 1 = .ok (.iload_n 1, 1) := by decide +kernel
theorem dX11_lasts_2 : decode cX11_lasts 2 = .ok (.invokevirtual 412, 3) := by decide +kernel
theorem dX11_lasts_5 : decode cX11_lasts 5 = .ok (.ifCond .ne 5, 3) := by decide +kernel
theorem dX11_lasts_8 : decode cX11_lasts 8 = .ok (.iconst (-1), 1) := by decide +kernel
theorem dX11_lasts_9 : decode cX11_lasts 9 = .ok (.ireturn, 1) := by decide +kernel
theorem dX11_lasts_10 : decode cX11_lasts 10 = .ok (.aload_n 0, 1) := by decide +kernel
theorem dX11_lasts_11 : decode cX11_lasts 11 = .ok (.invokevirtual 400, 3) := by decide +kernel
theorem dX11_lasts_14 : decode cX11_lasts 14 = .ok (.aload_n 0, 1) := by decide +kernel
theorem dX11_lasts_15 : decode cX11_lasts 15 = .ok (.iconst 1, 1) := by decide +kernel
theorem dX11_lasts_16 : decode cX11_lasts 16 = .ok (.putfield 347, 3) := by decide +kernel
theorem dX11_lasts_19 : decode cX11_lasts 19 = .ok (.iconst 0, 1) := by decide +kernel
theorem dX11_lasts_20 : decode cX11_lasts 20 = .ok (.istore_n 2, 1) := by decide +kernel
theorem dX11_lasts_21 : decode cX11_lasts 21 = .ok (.iload_n 2, 1) := by decide +kernel
theorem dX11_lasts_22 : decode cX11_lasts 22 = .ok (.sipush 200, 3) := by decide +kernel
theorem dX11_lasts_25 : decode cX11_lasts 25 = .ok (.if_icmp .gt 23, 3) := by decide +kernel
theorem dX11_lasts_28 : decode cX11_lasts 28 = .ok (.aload_n 0, 1) := by decide +kernel
theorem dX11_lasts_29 : decode cX11_lasts 29 = .ok (.iload_n 1, 1) := by decide +kernel
theorem dX11_lasts_30 : decode cX11_lasts 30 = .ok (.invokevirtual 385, 3) := by decide +kernel
theorem dX11_lasts_33 : decode cX11_lasts 33 = .ok (.ifCond .ne 5, 3) := by decide +kernel
theorem dX11_lasts_36 : decode cX11_lasts 36 = .ok (.iload_n 2, 1) := by decide +kernel
theorem dX11_lasts_37 : decode cX11_lasts 37 = .ok (.ireturn, 1) := by decide +kernel
theorem dX11_lasts_38 : decode cX11_lasts 38 = .ok (.aload_n 0, 1) := by decide +kernel
theorem dX11_lasts_39 : decode cX11_lasts 39 = .ok (.invokevirtual 394, 3) := by decide +kernel
theorem dX11_lasts_42 : decode cX11_lasts 42 = .ok (.iinc 2 1, 3) := by decide +kernel
theorem dX11_lasts_45 : decode cX11_lasts 45 = .ok (.goto (-24), 3) := by decide +kernel
theorem dX11_lasts_48 : decode cX11_lasts 48 = .ok (.bipush (-2), 2) := by decide +kernel
theorem dX11_lasts_50 : decode cX11_lasts 50 = .ok (.ireturn, 1) := by decide +kernel
theorem dX11_keepsWhose_0 : decode cX11_keepsWhose 0 = .ok (.aload_n 0, 1) := by decide +kernel
theorem dX11_keepsWhose_1 : decode cX11_keepsWhose 1 = .ok (.invokevirtual 400, 3) := by decide +kernel
theorem dX11_keepsWhose_4 : decode cX11_keepsWhose 4 = .ok (.aload_n 0, 1) := by decide +kernel
theorem dX11_keepsWhose_5 : decode cX11_keepsWhose 5 = .ok (.invokevirtual 403, 3) := by decide +kernel
theorem dX11_keepsWhose_8 : decode cX11_keepsWhose 8 = .ok (.iconst 0, 1) := by decide +kernel
theorem dX11_keepsWhose_9 : decode cX11_keepsWhose 9 = .ok (.istore_n 1, 1) := by decide +kernel
theorem dX11_keepsWhose_10 : decode cX11_keepsWhose 10 = .ok (.iload_n 1, 1) := by decide +kernel
theorem dX11_keepsWhose_11 : decode cX11_keepsWhose 11 = .ok (.bipush 7, 2) := by decide +kernel
theorem dX11_keepsWhose_13 : decode cX11_keepsWhose 13 = .ok (.if_icmp .ge 21, 3) := by decide +kernel
theorem dX11_keepsWhose_16 : decode cX11_keepsWhose 16 = .ok (.aload_n 0, 1) := by decide +kernel
theorem dX11_keepsWhose_17 : decode cX11_keepsWhose 17 = .ok (.getfield 149, 3) := by decide +kernel
theorem dX11_keepsWhose_20 : decode cX11_keepsWhose 20 = .ok (.iload_n 1, 1) := by decide +kernel
theorem dX11_keepsWhose_21 : decode cX11_keepsWhose 21 = .ok (.aload_n 0, 1) := by decide +kernel
theorem dX11_keepsWhose_22 : decode cX11_keepsWhose 22 = .ok (.getfield 137, 3) := by decide +kernel
theorem dX11_keepsWhose_25 : decode cX11_keepsWhose 25 = .ok (.iload_n 1, 1) := by decide +kernel
theorem dX11_keepsWhose_26 : decode cX11_keepsWhose 26 = .ok (.iaload, 1) := by decide +kernel
theorem dX11_keepsWhose_27 : decode cX11_keepsWhose 27 = .ok (.iastore, 1) := by decide +kernel
theorem dX11_keepsWhose_28 : decode cX11_keepsWhose 28 = .ok (.iinc 1 1, 3) := by decide +kernel
theorem dX11_keepsWhose_31 : decode cX11_keepsWhose 31 = .ok (.goto (-21), 3) := by decide +kernel
theorem dX11_keepsWhose_34 : decode cX11_keepsWhose 34 = .ok (.return_, 1) := by decide +kernel
theorem dX11_othersNow_0 : decode cX11_othersNow 0 = .ok (.aload_n 0, 1) := by decide +kernel
theorem dX11_othersNow_1 : decode cX11_othersNow 1 = .ok (.invokevirtual 403, 3) := by decide +kernel
theorem dX11_othersNow_4 : decode cX11_othersNow 4 = .ok (.iconst 0, 1) := by decide +kernel
theorem dX11_othersNow_5 : decode cX11_othersNow 5 = .ok (.istore_n 1, 1) := by decide +kernel
theorem dX11_othersNow_6 : decode cX11_othersNow 6 = .ok (.iconst 0, 1) := by decide +kernel
theorem dX11_othersNow_7 : decode cX11_othersNow 7 = .ok (.istore_n 2, 1) := by decide +kernel
theorem dX11_othersNow_8 : decode cX11_othersNow 8 = .ok (.iload_n 2, 1) := by decide +kernel
theorem dX11_othersNow_9 : decode cX11_othersNow 9 = .ok (.aload_n 0, 1) := by decide +kernel
theorem dX11_othersNow_10 : decode cX11_othersNow 10 = .ok (.getfield 49, 3) := by decide +kernel
theorem dX11_othersNow_13 : decode cX11_othersNow 13 = .ok (.aload_n 0, 1) := by decide +kernel
theorem dX11_othersNow_14 : decode cX11_othersNow 14 = .ok (.getfield 254, 3) := by decide +kernel
theorem dX11_othersNow_17 : decode cX11_othersNow 17 = .ok (.iaload, 1) := by decide +kernel
theorem dX11_othersNow_18 : decode cX11_othersNow 18 = .ok (.if_icmp .ge 27, 3) := by decide +kernel
theorem dX11_othersNow_21 : decode cX11_othersNow 21 = .ok (.aload_n 0, 1) := by decide +kernel
theorem dX11_othersNow_22 : decode cX11_othersNow 22 = .ok (.getfield 137, 3) := by decide +kernel
theorem dX11_othersNow_25 : decode cX11_othersNow 25 = .ok (.iload_n 2, 1) := by decide +kernel
theorem dX11_othersNow_26 : decode cX11_othersNow 26 = .ok (.iaload, 1) := by decide +kernel
theorem dX11_othersNow_27 : decode cX11_othersNow 27 = .ok (.aload_n 0, 1) := by decide +kernel
theorem dX11_othersNow_28 : decode cX11_othersNow 28 = .ok (.getfield 149, 3) := by decide +kernel
theorem dX11_othersNow_31 : decode cX11_othersNow 31 = .ok (.iload_n 2, 1) := by decide +kernel
theorem dX11_othersNow_32 : decode cX11_othersNow 32 = .ok (.iaload, 1) := by decide +kernel
theorem dX11_othersNow_33 : decode cX11_othersNow 33 = .ok (.if_icmp .eq 6, 3) := by decide +kernel
theorem dX11_othersNow_36 : decode cX11_othersNow 36 = .ok (.iinc 1 1, 3) := by decide +kernel
theorem dX11_othersNow_39 : decode cX11_othersNow 39 = .ok (.iinc 2 1, 3) := by decide +kernel
theorem dX11_othersNow_42 : decode cX11_othersNow 42 = .ok (.goto (-34), 3) := by decide +kernel
theorem dX11_othersNow_45 : decode cX11_othersNow 45 = .ok (.iload_n 1, 1) := by decide +kernel
theorem dX11_othersNow_46 : decode cX11_othersNow 46 = .ok (.ireturn, 1) := by decide +kernel
theorem dX11_book_0 : decode cX11_book 0 = .ok (.aload_n 0, 1) := by decide +kernel
theorem dX11_book_1 : decode cX11_book 1 = .ok (.invokevirtual 427, 3) := by decide +kernel
theorem dX11_book_4 : decode cX11_book 4 = .ok (.aload_n 0, 1) := by decide +kernel
theorem dX11_book_5 : decode cX11_book 5 = .ok (.iconst 1, 1) := by decide +kernel
theorem dX11_book_6 : decode cX11_book 6 = .ok (.putfield 350, 3) := by decide +kernel
theorem dX11_book_9 : decode cX11_book 9 = .ok (.aload_n 0, 1) := by decide +kernel
theorem dX11_book_10 : decode cX11_book 10 = .ok (.invokevirtual 430, 3) := by decide +kernel
theorem dX11_book_13 : decode cX11_book 13 = .ok (.ireturn, 1) := by decide +kernel
theorem dX11_hangs_0 : decode cX11_hangs 0 = .ok (.iload_n 1, 1) := by decide +kernel
theorem dX11_hangs_1 : decode cX11_hangs 1 = .ok (.iconst 0, 1) := by decide +kernel
theorem dX11_hangs_2 : decode cX11_hangs 2 = .ok (.iconst 1, 1) := by decide +kernel
theorem dX11_hangs_3 : decode cX11_hangs 3 = .ok (.invokestatic 340, 3) := by decide +kernel
theorem dX11_hangs_6 : decode cX11_hangs 6 = .ok (.ifCond .ne 5, 3) := by decide +kernel
theorem dX11_hangs_9 : decode cX11_hangs 9 = .ok (.iconst (-1), 1) := by decide +kernel
theorem dX11_hangs_10 : decode cX11_hangs 10 = .ok (.ireturn, 1) := by decide +kernel
theorem dX11_hangs_11 : decode cX11_hangs 11 = .ok (.aload_n 0, 1) := by decide +kernel
theorem dX11_hangs_12 : decode cX11_hangs 12 = .ok (.invokevirtual 427, 3) := by decide +kernel
theorem dX11_hangs_15 : decode cX11_hangs 15 = .ok (.bipush (-2), 2) := by decide +kernel
theorem dX11_hangs_17 : decode cX11_hangs 17 = .ok (.istore_n 2, 1) := by decide +kernel
theorem dX11_hangs_18 : decode cX11_hangs 18 = .ok (.bipush (-2), 2) := by decide +kernel
theorem dX11_hangs_20 : decode cX11_hangs 20 = .ok (.istore_n 3, 1) := by decide +kernel
theorem dX11_hangs_21 : decode cX11_hangs 21 = .ok (.iconst 0, 1) := by decide +kernel
theorem dX11_hangs_22 : decode cX11_hangs 22 = .ok (.istore 4, 2) := by decide +kernel
theorem dX11_hangs_24 : decode cX11_hangs 24 = .ok (.iload 4, 2) := by decide +kernel
theorem dX11_hangs_26 : decode cX11_hangs 26 = .ok (.aload_n 0, 1) := by decide +kernel
theorem dX11_hangs_27 : decode cX11_hangs 27 = .ok (.getfield 61, 3) := by decide +kernel
theorem dX11_hangs_30 : decode cX11_hangs 30 = .ok (.aload_n 0, 1) := by decide +kernel
theorem dX11_hangs_31 : decode cX11_hangs 31 = .ok (.getfield 254, 3) := by decide +kernel
theorem dX11_hangs_34 : decode cX11_hangs 34 = .ok (.iaload, 1) := by decide +kernel
theorem dX11_hangs_35 : decode cX11_hangs 35 = .ok (.if_icmp .ge 61, 3) := by decide +kernel
theorem dX11_hangs_38 : decode cX11_hangs 38 = .ok (.aload_n 0, 1) := by decide +kernel
theorem dX11_hangs_39 : decode cX11_hangs 39 = .ok (.invokevirtual 400, 3) := by decide +kernel
theorem dX11_hangs_42 : decode cX11_hangs 42 = .ok (.aload_n 0, 1) := by decide +kernel
theorem dX11_hangs_43 : decode cX11_hangs 43 = .ok (.getfield 134, 3) := by decide +kernel
theorem dX11_hangs_46 : decode cX11_hangs 46 = .ok (.bipush 7, 2) := by decide +kernel
theorem dX11_hangs_48 : decode cX11_hangs 48 = .ok (.iload 4, 2) := by decide +kernel
theorem dX11_hangs_50 : decode cX11_hangs 50 = .ok (.iadd, 1) := by decide +kernel
theorem dX11_hangs_51 : decode cX11_hangs 51 = .ok (.iaload, 1) := by decide +kernel
theorem dX11_hangs_52 : decode cX11_hangs 52 = .ok (.ifCond .ne 6, 3) := by decide +kernel
theorem dX11_hangs_55 : decode cX11_hangs 55 = .ok (.goto 35, 3) := by decide +kernel
theorem dX11_hangs_58 : decode cX11_hangs 58 = .ok (.aload_n 0, 1) := by decide +kernel
theorem dX11_hangs_59 : decode cX11_hangs 59 = .ok (.getfield 134, 3) := by decide +kernel
theorem dX11_hangs_62 : decode cX11_hangs 62 = .ok (.bipush 7, 2) := by decide +kernel
theorem dX11_hangs_64 : decode cX11_hangs 64 = .ok (.iload 4, 2) := by decide +kernel
theorem dX11_hangs_66 : decode cX11_hangs 66 = .ok (.iadd, 1) := by decide +kernel
theorem dX11_hangs_67 : decode cX11_hangs 67 = .ok (.iconst 0, 1) := by decide +kernel
theorem dX11_hangs_68 : decode cX11_hangs 68 = .ok (.iastore, 1) := by decide +kernel
theorem dX11_hangs_69 : decode cX11_hangs 69 = .ok (.aload_n 0, 1) := by decide +kernel
theorem dX11_hangs_70 : decode cX11_hangs 70 = .ok (.invokevirtual 430, 3) := by decide +kernel
theorem dX11_hangs_73 : decode cX11_hangs 73 = .ok (.istore 5, 2) := by decide +kernel
theorem dX11_hangs_75 : decode cX11_hangs 75 = .ok (.iload 5, 2) := by decide +kernel
theorem dX11_hangs_77 : decode cX11_hangs 77 = .ok (.iload_n 3, 1) := by decide +kernel
theorem dX11_hangs_78 : decode cX11_hangs 78 = .ok (.if_icmp .gt 6, 3) := by decide +kernel
theorem dX11_hangs_81 : decode cX11_hangs 81 = .ok (.goto 9, 3) := by decide +kernel
theorem dX11_hangs_84 : decode cX11_hangs 84 = .ok (.iload 4, 2) := by decide +kernel
theorem dX11_hangs_86 : decode cX11_hangs 86 = .ok (.istore_n 2, 1) := by decide +kernel
theorem dX11_hangs_87 : decode cX11_hangs 87 = .ok (.iload 5, 2) := by decide +kernel
theorem dX11_hangs_89 : decode cX11_hangs 89 = .ok (.istore_n 3, 1) := by decide +kernel
theorem dX11_hangs_90 : decode cX11_hangs 90 = .ok (.iinc 4 1, 3) := by decide +kernel
theorem dX11_hangs_93 : decode cX11_hangs 93 = .ok (.goto (-69), 3) := by decide +kernel
theorem dX11_hangs_96 : decode cX11_hangs 96 = .ok (.iload_n 1, 1) := by decide +kernel
theorem dX11_hangs_97 : decode cX11_hangs 97 = .ok (.ifCond .ne 7, 3) := by decide +kernel
theorem dX11_hangs_100 : decode cX11_hangs 100 = .ok (.iload_n 2, 1) := by decide +kernel
theorem dX11_hangs_101 : decode cX11_hangs 101 = .ok (.goto 4, 3) := by decide +kernel
theorem dX11_hangs_104 : decode cX11_hangs 104 = .ok (.iload_n 3, 1) := by decide +kernel
theorem dX11_hangs_105 : decode cX11_hangs 105 = .ok (.ireturn, 1) := by decide +kernel
theorem dX11_wouldSwear_0 : decode cX11_wouldSwear 0 = .ok (.aload_n 0, 1) := by decide +kernel
theorem dX11_wouldSwear_1 : decode cX11_wouldSwear 1 = .ok (.iload_n 1, 1) := by decide +kernel
theorem dX11_wouldSwear_2 : decode cX11_wouldSwear 2 = .ok (.invokevirtual 363, 3) := by decide +kernel
theorem dX11_wouldSwear_5 : decode cX11_wouldSwear 5 = .ok (.aload_n 0, 1) := by decide +kernel
theorem dX11_wouldSwear_6 : decode cX11_wouldSwear 6 = .ok (.getfield 125, 3) := by decide +kernel
theorem dX11_wouldSwear_9 : decode cX11_wouldSwear 9 = .ok (.iconst 0, 1) := by decide +kernel
theorem dX11_wouldSwear_10 : decode cX11_wouldSwear 10 = .ok (.aload_n 0, 1) := by decide +kernel
theorem dX11_wouldSwear_11 : decode cX11_wouldSwear 11 = .ok (.getfield 134, 3) := by decide +kernel
theorem dX11_wouldSwear_14 : decode cX11_wouldSwear 14 = .ok (.iload_n 1, 1) := by decide +kernel
theorem dX11_wouldSwear_15 : decode cX11_wouldSwear 15 = .ok (.iaload, 1) := by decide +kernel
theorem dX11_wouldSwear_16 : decode cX11_wouldSwear 16 = .ok (.iload_n 3, 1) := by decide +kernel
theorem dX11_wouldSwear_17 : decode cX11_wouldSwear 17 = .ok (.iadd, 1) := by decide +kernel
theorem dX11_wouldSwear_18 : decode cX11_wouldSwear 18 = .ok (.iconst 0, 1) := by decide +kernel
theorem dX11_wouldSwear_19 : decode cX11_wouldSwear 19 = .ok (.sipush 999, 3) := by decide +kernel
theorem dX11_wouldSwear_22 : decode cX11_wouldSwear 22 = .ok (.invokestatic 372, 3) := by decide +kernel
theorem dX11_wouldSwear_25 : decode cX11_wouldSwear 25 = .ok (.iastore, 1) := by decide +kernel
theorem dX11_wouldSwear_26 : decode cX11_wouldSwear 26 = .ok (.aload_n 0, 1) := by decide +kernel
theorem dX11_wouldSwear_27 : decode cX11_wouldSwear 27 = .ok (.getfield 125, 3) := by decide +kernel
theorem dX11_wouldSwear_30 : decode cX11_wouldSwear 30 = .ok (.iconst 2, 1) := by decide +kernel
theorem dX11_wouldSwear_31 : decode cX11_wouldSwear 31 = .ok (.iload_n 3, 1) := by decide +kernel
theorem dX11_wouldSwear_32 : decode cX11_wouldSwear 32 = .ok (.iastore, 1) := by decide +kernel
theorem dX11_wouldSwear_33 : decode cX11_wouldSwear 33 = .ok (.aload_n 0, 1) := by decide +kernel
theorem dX11_wouldSwear_34 : decode cX11_wouldSwear 34 = .ok (.getfield 125, 3) := by decide +kernel
theorem dX11_wouldSwear_37 : decode cX11_wouldSwear 37 = .ok (.iconst 3, 1) := by decide +kernel
theorem dX11_wouldSwear_38 : decode cX11_wouldSwear 38 = .ok (.aload_n 0, 1) := by decide +kernel
theorem dX11_wouldSwear_39 : decode cX11_wouldSwear 39 = .ok (.getfield 134, 3) := by decide +kernel
theorem dX11_wouldSwear_42 : decode cX11_wouldSwear 42 = .ok (.bipush 14, 2) := by decide +kernel
theorem dX11_wouldSwear_44 : decode cX11_wouldSwear 44 = .ok (.iaload, 1) := by decide +kernel
theorem dX11_wouldSwear_45 : decode cX11_wouldSwear 45 = .ok (.iload_n 3, 1) := by decide +kernel
theorem dX11_wouldSwear_46 : decode cX11_wouldSwear 46 = .ok (.iadd, 1) := by decide +kernel
theorem dX11_wouldSwear_47 : decode cX11_wouldSwear 47 = .ok (.iastore, 1) := by decide +kernel
theorem dX11_wouldSwear_48 : decode cX11_wouldSwear 48 = .ok (.aload_n 0, 1) := by decide +kernel
theorem dX11_wouldSwear_49 : decode cX11_wouldSwear 49 = .ok (.getfield 125, 3) := by decide +kernel
theorem dX11_wouldSwear_52 : decode cX11_wouldSwear 52 = .ok (.iconst 5, 1) := by decide +kernel
theorem dX11_wouldSwear_53 : decode cX11_wouldSwear 53 = .ok (.iload_n 2, 1) := by decide +kernel
theorem dX11_wouldSwear_54 : decode cX11_wouldSwear 54 = .ok (.iastore, 1) := by decide +kernel
theorem dX11_wouldSwear_55 : decode cX11_wouldSwear 55 = .ok (.aload_n 0, 1) := by decide +kernel
theorem dX11_wouldSwear_56 : decode cX11_wouldSwear 56 = .ok (.iconst 0, 1) := by decide +kernel
theorem dX11_wouldSwear_57 : decode cX11_wouldSwear 57 = .ok (.aload_n 0, 1) := by decide +kernel
theorem dX11_wouldSwear_58 : decode cX11_wouldSwear 58 = .ok (.getfield 125, 3) := by decide +kernel
theorem dX11_wouldSwear_61 : decode cX11_wouldSwear 61 = .ok (.iconst 1, 1) := by decide +kernel
theorem dX11_wouldSwear_62 : decode cX11_wouldSwear 62 = .ok (.iaload, 1) := by decide +kernel
theorem dX11_wouldSwear_63 : decode cX11_wouldSwear 63 = .ok (.iload_n 3, 1) := by decide +kernel
theorem dX11_wouldSwear_64 : decode cX11_wouldSwear 64 = .ok (.isub, 1) := by decide +kernel
theorem dX11_wouldSwear_65 : decode cX11_wouldSwear 65 = .ok (.invokevirtual 369, 3) := by decide +kernel
theorem dX11_wouldSwear_68 : decode cX11_wouldSwear 68 = .ok (.ifCond .le 7, 3) := by decide +kernel
theorem dX11_wouldSwear_71 : decode cX11_wouldSwear 71 = .ok (.iconst 1, 1) := by decide +kernel
theorem dX11_wouldSwear_72 : decode cX11_wouldSwear 72 = .ok (.goto 4, 3) := by decide +kernel
theorem dX11_wouldSwear_75 : decode cX11_wouldSwear 75 = .ok (.iconst 0, 1) := by decide +kernel
theorem dX11_wouldSwear_76 : decode cX11_wouldSwear 76 = .ok (.ireturn, 1) := by decide +kernel
theorem dX11_doesCover_0 : decode cX11_doesCover 0 = .ok (.iconst 0, 1) := by decide +kernel
theorem dX11_doesCover_1 : decode cX11_doesCover 1 = .ok (.istore_n 3, 1) := by decide +kernel
theorem dX11_doesCover_2 : decode cX11_doesCover 2 = .ok (.iload_n 3, 1) := by decide +kernel
theorem dX11_doesCover_3 : decode cX11_doesCover 3 = .ok (.iload_n 2, 1) := by decide +kernel
theorem dX11_doesCover_4 : decode cX11_doesCover 4 = .ok (.if_icmp .gt 78, 3) := by decide +kernel
theorem dX11_doesCover_7 : decode cX11_doesCover 7 = .ok (.iconst 0, 1) := by decide +kernel
theorem dX11_doesCover_8 : decode cX11_doesCover 8 = .ok (.istore 4, 2) := by decide +kernel
theorem dX11_doesCover_10 : decode cX11_doesCover 10 = .ok (.iconst 0, 1) := by decide +kernel
theorem dX11_doesCover_11 : decode cX11_doesCover 11 = .ok (.istore 5, 2) := by decide +kernel
theorem dX11_doesCover_13 : decode cX11_doesCover 13 = .ok (.iload 5, 2) := by decide +kernel
theorem dX11_doesCover_15 : decode cX11_doesCover 15 = .ok (.aload_n 0, 1) := by decide +kernel
theorem dX11_doesCover_16 : decode cX11_doesCover 16 = .ok (.getfield 61, 3) := by decide +kernel
theorem dX11_doesCover_19 : decode cX11_doesCover 19 = .ok (.aload_n 0, 1) := by decide +kernel
theorem dX11_doesCover_20 : decode cX11_doesCover 20 = .ok (.getfield 254, 3) := by decide +kernel
theorem dX11_doesCover_23 : decode cX11_doesCover 23 = .ok (.iaload, 1) := by decide +kernel
theorem dX11_doesCover_24 : decode cX11_doesCover 24 = .ok (.if_icmp .ge 36, 3) := by decide +kernel
theorem dX11_doesCover_27 : decode cX11_doesCover 27 = .ok (.iload_n 1, 1) := by decide +kernel
theorem dX11_doesCover_28 : decode cX11_doesCover 28 = .ok (.iload 5, 2) := by decide +kernel
theorem dX11_doesCover_30 : decode cX11_doesCover 30 = .ok (.ishr, 1) := by decide +kernel
theorem dX11_doesCover_31 : decode cX11_doesCover 31 = .ok (.iconst 1, 1) := by decide +kernel
theorem dX11_doesCover_32 : decode cX11_doesCover 32 = .ok (.iand, 1) := by decide +kernel
theorem dX11_doesCover_33 : decode cX11_doesCover 33 = .ok (.iconst 1, 1) := by decide +kernel
theorem dX11_doesCover_34 : decode cX11_doesCover 34 = .ok (.if_icmp .ne 20, 3) := by decide +kernel
theorem dX11_doesCover_37 : decode cX11_doesCover 37 = .ok (.aload_n 0, 1) := by decide +kernel
theorem dX11_doesCover_38 : decode cX11_doesCover 38 = .ok (.iload 5, 2) := by decide +kernel
theorem dX11_doesCover_40 : decode cX11_doesCover 40 = .ok (.iload_n 1, 1) := by decide +kernel
theorem dX11_doesCover_41 : decode cX11_doesCover 41 = .ok (.invokestatic 366, 3) := by decide +kernel
theorem dX11_doesCover_44 : decode cX11_doesCover 44 = .ok (.iload_n 3, 1) := by decide +kernel
theorem dX11_doesCover_45 : decode cX11_doesCover 45 = .ok (.invokevirtual 433, 3) := by decide +kernel
theorem dX11_doesCover_48 : decode cX11_doesCover 48 = .ok (.ifCond .eq 6, 3) := by decide +kernel
theorem dX11_doesCover_51 : decode cX11_doesCover 51 = .ok (.iinc 4 1, 3) := by decide +kernel
theorem dX11_doesCover_54 : decode cX11_doesCover 54 = .ok (.iinc 5 1, 3) := by decide +kernel
theorem dX11_doesCover_57 : decode cX11_doesCover 57 = .ok (.goto (-44), 3) := by decide +kernel
theorem dX11_doesCover_60 : decode cX11_doesCover 60 = .ok (.iload 4, 2) := by decide +kernel
theorem dX11_doesCover_62 : decode cX11_doesCover 62 = .ok (.aload_n 0, 1) := by decide +kernel
theorem dX11_doesCover_63 : decode cX11_doesCover 63 = .ok (.getfield 88, 3) := by decide +kernel
theorem dX11_doesCover_66 : decode cX11_doesCover 66 = .ok (.aload_n 0, 1) := by decide +kernel
theorem dX11_doesCover_67 : decode cX11_doesCover 67 = .ok (.getfield 254, 3) := by decide +kernel
theorem dX11_doesCover_70 : decode cX11_doesCover 70 = .ok (.iaload, 1) := by decide +kernel
theorem dX11_doesCover_71 : decode cX11_doesCover 71 = .ok (.if_icmp .ge 5, 3) := by decide +kernel
theorem dX11_doesCover_74 : decode cX11_doesCover 74 = .ok (.iconst 0, 1) := by decide +kernel
theorem dX11_doesCover_75 : decode cX11_doesCover 75 = .ok (.ireturn, 1) := by decide +kernel
theorem dX11_doesCover_76 : decode cX11_doesCover 76 = .ok (.iinc 3 1, 3) := by decide +kernel
theorem dX11_doesCover_79 : decode cX11_doesCover 79 = .ok (.goto (-77), 3) := by decide +kernel
theorem dX11_doesCover_82 : decode cX11_doesCover 82 = .ok (.iconst 1, 1) := by decide +kernel
theorem dX11_doesCover_83 : decode cX11_doesCover 83 = .ok (.ireturn, 1) := by decide +kernel
theorem dX11_ithOf_0 : decode cX11_ithOf 0 = .ok (.iconst 0, 1) := by decide +kernel
theorem dX11_ithOf_1 : decode cX11_ithOf 1 = .ok (.istore_n 2, 1) := by decide +kernel
theorem dX11_ithOf_2 : decode cX11_ithOf 2 = .ok (.iconst 0, 1) := by decide +kernel
theorem dX11_ithOf_3 : decode cX11_ithOf 3 = .ok (.istore_n 3, 1) := by decide +kernel
theorem dX11_ithOf_4 : decode cX11_ithOf 4 = .ok (.iload_n 3, 1) := by decide +kernel
theorem dX11_ithOf_5 : decode cX11_ithOf 5 = .ok (.bipush 7, 2) := by decide +kernel
theorem dX11_ithOf_7 : decode cX11_ithOf 7 = .ok (.if_icmp .ge 30, 3) := by decide +kernel
theorem dX11_ithOf_10 : decode cX11_ithOf 10 = .ok (.iload_n 0, 1) := by decide +kernel
theorem dX11_ithOf_11 : decode cX11_ithOf 11 = .ok (.iload_n 3, 1) := by decide +kernel
theorem dX11_ithOf_12 : decode cX11_ithOf 12 = .ok (.ishr, 1) := by decide +kernel
theorem dX11_ithOf_13 : decode cX11_ithOf 13 = .ok (.iconst 1, 1) := by decide +kernel
theorem dX11_ithOf_14 : decode cX11_ithOf 14 = .ok (.iand, 1) := by decide +kernel
theorem dX11_ithOf_15 : decode cX11_ithOf 15 = .ok (.ifCond .ne 6, 3) := by decide +kernel
theorem dX11_ithOf_18 : decode cX11_ithOf 18 = .ok (.goto 13, 3) := by decide +kernel
theorem dX11_ithOf_21 : decode cX11_ithOf 21 = .ok (.iload_n 2, 1) := by decide +kernel
theorem dX11_ithOf_22 : decode cX11_ithOf 22 = .ok (.iload_n 1, 1) := by decide +kernel
theorem dX11_ithOf_23 : decode cX11_ithOf 23 = .ok (.if_icmp .ne 5, 3) := by decide +kernel
theorem dX11_ithOf_26 : decode cX11_ithOf 26 = .ok (.iload_n 3, 1) := by decide +kernel
theorem dX11_ithOf_27 : decode cX11_ithOf 27 = .ok (.ireturn, 1) := by decide +kernel
theorem dX11_ithOf_28 : decode cX11_ithOf 28 = .ok (.iinc 2 1, 3) := by decide +kernel
theorem dX11_ithOf_31 : decode cX11_ithOf 31 = .ok (.iinc 3 1, 3) := by decide +kernel
theorem dX11_ithOf_34 : decode cX11_ithOf 34 = .ok (.goto (-30), 3) := by decide +kernel
theorem dX11_ithOf_37 : decode cX11_ithOf 37 = .ok (.iconst (-1), 1) := by decide +kernel
theorem dX11_ithOf_38 : decode cX11_ithOf 38 = .ok (.ireturn, 1) := by decide +kernel
theorem dX11_isEarlier_0 : decode cX11_isEarlier 0 = .ok (.iconst 0, 1) := by decide +kernel
theorem dX11_isEarlier_1 : decode cX11_isEarlier 1 = .ok (.istore_n 2, 1) := by decide +kernel
theorem dX11_isEarlier_2 : decode cX11_isEarlier 2 = .ok (.iload_n 2, 1) := by decide +kernel
theorem dX11_isEarlier_3 : decode cX11_isEarlier 3 = .ok (.iconst 4, 1) := by decide +kernel
theorem dX11_isEarlier_4 : decode cX11_isEarlier 4 = .ok (.if_icmp .ge 41, 3) := by decide +kernel
theorem dX11_isEarlier_7 : decode cX11_isEarlier 7 = .ok (.iload_n 0, 1) := by decide +kernel
theorem dX11_isEarlier_8 : decode cX11_isEarlier 8 = .ok (.iload_n 2, 1) := by decide +kernel
theorem dX11_isEarlier_9 : decode cX11_isEarlier 9 = .ok (.invokestatic 436, 3) := by decide +kernel
theorem dX11_isEarlier_12 : decode cX11_isEarlier 12 = .ok (.iload_n 1, 1) := by decide +kernel
theorem dX11_isEarlier_13 : decode cX11_isEarlier 13 = .ok (.iload_n 2, 1) := by decide +kernel
theorem dX11_isEarlier_14 : decode cX11_isEarlier 14 = .ok (.invokestatic 436, 3) := by decide +kernel
theorem dX11_isEarlier_17 : decode cX11_isEarlier 17 = .ok (.if_icmp .eq 22, 3) := by decide +kernel
theorem dX11_isEarlier_20 : decode cX11_isEarlier 20 = .ok (.iload_n 0, 1) := by decide +kernel
theorem dX11_isEarlier_21 : decode cX11_isEarlier 21 = .ok (.iload_n 2, 1) := by decide +kernel
theorem dX11_isEarlier_22 : decode cX11_isEarlier 22 = .ok (.invokestatic 436, 3) := by decide +kernel
theorem dX11_isEarlier_25 : decode cX11_isEarlier 25 = .ok (.iload_n 1, 1) := by decide +kernel
theorem dX11_isEarlier_26 : decode cX11_isEarlier 26 = .ok (.iload_n 2, 1) := by decide +kernel
theorem dX11_isEarlier_27 : decode cX11_isEarlier 27 = .ok (.invokestatic 436, 3) := by decide +kernel
theorem dX11_isEarlier_30 : decode cX11_isEarlier 30 = .ok (.if_icmp .ge 7, 3) := by decide +kernel
theorem dX11_isEarlier_33 : decode cX11_isEarlier 33 = .ok (.iconst 1, 1) := by decide +kernel
theorem dX11_isEarlier_34 : decode cX11_isEarlier 34 = .ok (.goto 4, 3) := by decide +kernel
theorem dX11_isEarlier_37 : decode cX11_isEarlier 37 = .ok (.iconst 0, 1) := by decide +kernel
theorem dX11_isEarlier_38 : decode cX11_isEarlier 38 = .ok (.ireturn, 1) := by decide +kernel
theorem dX11_isEarlier_39 : decode cX11_isEarlier 39 = .ok (.iinc 2 1, 3) := by decide +kernel
theorem dX11_isEarlier_42 : decode cX11_isEarlier 42 = .ok (.goto (-40), 3) := by decide +kernel
theorem dX11_isEarlier_45 : decode cX11_isEarlier 45 = .ok (.iconst 0, 1) := by decide +kernel
theorem dX11_isEarlier_46 : decode cX11_isEarlier 46 = .ok (.ireturn, 1) := by decide +kernel
theorem dX11_isLong_0 : decode cX11_isLong 0 = .ok (.iload_n 0, 1) := by decide +kernel
theorem dX11_isLong_1 : decode cX11_isLong 1 = .ok (.iconst 0, 1) := by decide +kernel
theorem dX11_isLong_2 : decode cX11_isLong 2 = .ok (.bipush 60, 2) := by decide +kernel
theorem dX11_isLong_4 : decode cX11_isLong 4 = .ok (.invokestatic 340, 3) := by decide +kernel
theorem dX11_isLong_7 : decode cX11_isLong 7 = .ok (.ireturn, 1) := by decide +kernel
theorem dX11_cover_0 : decode cX11_cover 0 = .ok (.iload_n 1, 1) := by decide +kernel
theorem dX11_cover_1 : decode cX11_cover 1 = .ok (.invokestatic 439, 3) := by decide +kernel
theorem dX11_cover_4 : decode cX11_cover 4 = .ok (.ifCond .eq 12, 3) := by decide +kernel
theorem dX11_cover_7 : decode cX11_cover 7 = .ok (.iload_n 2, 1) := by decide +kernel
theorem dX11_cover_8 : decode cX11_cover 8 = .ok (.iconst (-1), 1) := by decide +kernel
theorem dX11_cover_9 : decode cX11_cover 9 = .ok (.iconst 3, 1) := by decide +kernel
theorem dX11_cover_10 : decode cX11_cover 10 = .ok (.invokestatic 340, 3) := by decide +kernel
theorem dX11_cover_13 : decode cX11_cover 13 = .ok (.ifCond .ne 5, 3) := by decide +kernel
theorem dX11_cover_16 : decode cX11_cover 16 = .ok (.iconst (-1), 1) := by decide +kernel
theorem dX11_cover_17 : decode cX11_cover 17 = .ok (.ireturn, 1) := by decide +kernel
theorem dX11_cover_18 : decode cX11_cover 18 = .ok (.aload_n 0, 1) := by decide +kernel
theorem dX11_cover_19 : decode cX11_cover 19 = .ok (.invokevirtual 400, 3) := by decide +kernel
theorem dX11_cover_22 : decode cX11_cover 22 = .ok (.iconst (-1), 1) := by decide +kernel
theorem dX11_cover_23 : decode cX11_cover 23 = .ok (.istore_n 3, 1) := by decide +kernel
theorem dX11_cover_24 : decode cX11_cover 24 = .ok (.iconst 0, 1) := by decide +kernel
theorem dX11_cover_25 : decode cX11_cover 25 = .ok (.istore 4, 2) := by decide +kernel
theorem dX11_cover_27 : decode cX11_cover 27 = .ok (.iload 4, 2) := by decide +kernel
theorem dX11_cover_29 : decode cX11_cover 29 = .ok (.iconst 1, 1) := by decide +kernel
theorem dX11_cover_30 : decode cX11_cover 30 = .ok (.aload_n 0, 1) := by decide +kernel
theorem dX11_cover_31 : decode cX11_cover 31 = .ok (.getfield 61, 3) := by decide +kernel
theorem dX11_cover_34 : decode cX11_cover 34 = .ok (.aload_n 0, 1) := by decide +kernel
theorem dX11_cover_35 : decode cX11_cover 35 = .ok (.getfield 254, 3) := by decide +kernel
theorem dX11_cover_38 : decode cX11_cover 38 = .ok (.iaload, 1) := by decide +kernel
theorem dX11_cover_39 : decode cX11_cover 39 = .ok (.ishl, 1) := by decide +kernel
theorem dX11_cover_40 : decode cX11_cover 40 = .ok (.if_icmp .ge 80, 3) := by decide +kernel
theorem dX11_cover_43 : decode cX11_cover 43 = .ok (.iload 4, 2) := by decide +kernel
theorem dX11_cover_45 : decode cX11_cover 45 = .ok (.invokestatic 366, 3) := by decide +kernel
theorem dX11_cover_48 : decode cX11_cover 48 = .ok (.iconst 4, 1) := by decide +kernel
theorem dX11_cover_49 : decode cX11_cover 49 = .ok (.if_icmp .gt 65, 3) := by decide +kernel
theorem dX11_cover_52 : decode cX11_cover 52 = .ok (.aload_n 0, 1) := by decide +kernel
theorem dX11_cover_53 : decode cX11_cover 53 = .ok (.iload 4, 2) := by decide +kernel
theorem dX11_cover_55 : decode cX11_cover 55 = .ok (.invokevirtual 418, 3) := by decide +kernel
theorem dX11_cover_58 : decode cX11_cover 58 = .ok (.ifCond .eq 56, 3) := by decide +kernel
theorem dX11_cover_61 : decode cX11_cover 61 = .ok (.aload_n 0, 1) := by decide +kernel
theorem dX11_cover_62 : decode cX11_cover 62 = .ok (.iload 4, 2) := by decide +kernel
theorem dX11_cover_64 : decode cX11_cover 64 = .ok (.iload_n 1, 1) := by decide +kernel
theorem dX11_cover_65 : decode cX11_cover 65 = .ok (.invokevirtual 442, 3) := by decide +kernel
theorem dX11_cover_68 : decode cX11_cover 68 = .ok (.ifCond .ne 6, 3) := by decide +kernel
theorem dX11_cover_71 : decode cX11_cover 71 = .ok (.goto 43, 3) := by decide +kernel
theorem dX11_cover_74 : decode cX11_cover 74 = .ok (.iload_n 3, 1) := by decide +kernel
theorem dX11_cover_75 : decode cX11_cover 75 = .ok (.ifCond .lt 36, 3) := by decide +kernel
theorem dX11_cover_78 : decode cX11_cover 78 = .ok (.iload 4, 2) := by decide +kernel
theorem dX11_cover_80 : decode cX11_cover 80 = .ok (.invokestatic 366, 3) := by decide +kernel
theorem dX11_cover_83 : decode cX11_cover 83 = .ok (.iload_n 3, 1) := by decide +kernel
theorem dX11_cover_84 : decode cX11_cover 84 = .ok (.invokestatic 366, 3) := by decide +kernel
theorem dX11_cover_87 : decode cX11_cover 87 = .ok (.if_icmp .lt 24, 3) := by decide +kernel
theorem dX11_cover_90 : decode cX11_cover 90 = .ok (.iload 4, 2) := by decide +kernel
theorem dX11_cover_92 : decode cX11_cover 92 = .ok (.invokestatic 366, 3) := by decide +kernel
theorem dX11_cover_95 : decode cX11_cover 95 = .ok (.iload_n 3, 1) := by decide +kernel
theorem dX11_cover_96 : decode cX11_cover 96 = .ok (.invokestatic 366, 3) := by decide +kernel
theorem dX11_cover_99 : decode cX11_cover 99 = .ok (.if_icmp .ne 15, 3) := by decide +kernel
theorem dX11_cover_102 : decode cX11_cover 102 = .ok (.iload 4, 2) := by decide +kernel
theorem dX11_cover_104 : decode cX11_cover 104 = .ok (.iload_n 3, 1) := by decide +kernel
theorem dX11_cover_105 : decode cX11_cover 105 = .ok (.invokestatic 445, 3) := by decide +kernel
theorem dX11_cover_108 : decode cX11_cover 108 = .ok (.ifCond .eq 6, 3) := by decide +kernel
theorem dX11_cover_111 : decode cX11_cover 111 = .ok (.iload 4, 2) := by decide +kernel
theorem dX11_cover_113 : decode cX11_cover 113 = .ok (.istore_n 3, 1) := by decide +kernel
theorem dX11_cover_114 : decode cX11_cover 114 = .ok (.iinc 4 1, 3) := by decide +kernel
theorem dX11_cover_117 : decode cX11_cover 117 = .ok (.goto (-90), 3) := by decide +kernel
theorem dX11_cover_120 : decode cX11_cover 120 = .ok (.iload_n 3, 1) := by decide +kernel
theorem dX11_cover_121 : decode cX11_cover 121 = .ok (.ifCond .ge 6, 3) := by decide +kernel
theorem dX11_cover_124 : decode cX11_cover 124 = .ok (.bipush (-2), 2) := by decide +kernel
theorem dX11_cover_126 : decode cX11_cover 126 = .ok (.ireturn, 1) := by decide +kernel
theorem dX11_cover_127 : decode cX11_cover 127 = .ok (.iload_n 2, 1) := by decide +kernel
theorem dX11_cover_128 : decode cX11_cover 128 = .ok (.iconst (-1), 1) := by decide +kernel
theorem dX11_cover_129 : decode cX11_cover 129 = .ok (.if_icmp .ne 10, 3) := by decide +kernel
theorem dX11_cover_132 : decode cX11_cover 132 = .ok (.iload_n 3, 1) := by decide +kernel
theorem dX11_cover_133 : decode cX11_cover 133 = .ok (.invokestatic 366, 3) := by decide +kernel
theorem dX11_cover_136 : decode cX11_cover 136 = .ok (.goto 8, 3) := by decide +kernel
theorem dX11_cover_139 : decode cX11_cover 139 = .ok (.iload_n 3, 1) := by decide +kernel
theorem dX11_cover_140 : decode cX11_cover 140 = .ok (.iload_n 2, 1) := by decide +kernel
theorem dX11_cover_141 : decode cX11_cover 141 = .ok (.invokestatic 436, 3) := by decide +kernel
theorem dX11_cover_144 : decode cX11_cover 144 = .ok (.ireturn, 1) := by decide +kernel
theorem dX11_walk_0 : decode cX11_walk 0 = .ok (.aload_n 0, 1) := by decide +kernel
theorem dX11_walk_1 : decode cX11_walk 1 = .ok (.iload_n 1, 1) := by decide +kernel
theorem dX11_walk_2 : decode cX11_walk 2 = .ok (.invokevirtual 397, 3) := by decide +kernel
theorem dX11_walk_5 : decode cX11_walk 5 = .ok (.ifCond .eq 11, 3) := by decide +kernel
theorem dX11_walk_8 : decode cX11_walk 8 = .ok (.aload_n 0, 1) := by decide +kernel
theorem dX11_walk_9 : decode cX11_walk 9 = .ok (.iload_n 2, 1) := by decide +kernel
theorem dX11_walk_10 : decode cX11_walk 10 = .ok (.invokevirtual 397, 3) := by decide +kernel
theorem dX11_walk_13 : decode cX11_walk 13 = .ok (.ifCond .ne 5, 3) := by decide +kernel
theorem dX11_walk_16 : decode cX11_walk 16 = .ok (.iconst (-1), 1) := by decide +kernel
theorem dX11_walk_17 : decode cX11_walk 17 = .ok (.ireturn, 1) := by decide +kernel
theorem dX11_walk_18 : decode cX11_walk 18 = .ok (.aload_n 0, 1) := by decide +kernel
theorem dX11_walk_19 : decode cX11_walk 19 = .ok (.invokevirtual 400, 3) := by decide +kernel
theorem dX11_walk_22 : decode cX11_walk 22 = .ok (.aload_n 0, 1) := by decide +kernel
theorem dX11_walk_23 : decode cX11_walk 23 = .ok (.iload_n 1, 1) := by decide +kernel
theorem dX11_walk_24 : decode cX11_walk 24 = .ok (.iload_n 2, 1) := by decide +kernel
theorem dX11_walk_25 : decode cX11_walk 25 = .ok (.invokevirtual 448, 3) := by decide +kernel
theorem dX11_walk_28 : decode cX11_walk 28 = .ok (.ireturn, 1) := by decide +kernel
theorem dX11_asks_0 : decode cX11_asks 0 = .ok (.aload_n 0, 1) := by decide +kernel
theorem dX11_asks_1 : decode cX11_asks 1 = .ok (.iload_n 1, 1) := by decide +kernel
theorem dX11_asks_2 : decode cX11_asks 2 = .ok (.invokevirtual 397, 3) := by decide +kernel
theorem dX11_asks_5 : decode cX11_asks 5 = .ok (.ifCond .ne 5, 3) := by decide +kernel
theorem dX11_asks_8 : decode cX11_asks 8 = .ok (.iconst (-1), 1) := by decide +kernel
theorem dX11_asks_9 : decode cX11_asks 9 = .ok (.ireturn, 1) := by decide +kernel
theorem dX11_asks_10 : decode cX11_asks 10 = .ok (.aload_n 0, 1) := by decide +kernel
theorem dX11_asks_11 : decode cX11_asks 11 = .ok (.invokevirtual 400, 3) := by decide +kernel
theorem dX11_asks_14 : decode cX11_asks 14 = .ok (.aload_n 0, 1) := by decide +kernel
theorem dX11_asks_15 : decode cX11_asks 15 = .ok (.iload_n 1, 1) := by decide +kernel
theorem dX11_asks_16 : decode cX11_asks 16 = .ok (.invokevirtual 451, 3) := by decide +kernel
theorem dX11_asks_19 : decode cX11_asks 19 = .ok (.ireturn, 1) := by decide +kernel
theorem dX11_fillsWalks_0 : decode cX11_fillsWalks 0 = .ok (.aload_n 0, 1) := by decide +kernel
theorem dX11_fillsWalks_1 : decode cX11_fillsWalks 1 = .ok (.invokevirtual 400, 3) := by decide +kernel
theorem dX11_fillsWalks_4 : decode cX11_fillsWalks 4 = .ok (.iconst 0, 1) := by decide +kernel
theorem dX11_fillsWalks_5 : decode cX11_fillsWalks 5 = .ok (.istore_n 1, 1) := by decide +kernel
theorem dX11_fillsWalks_6 : decode cX11_fillsWalks 6 = .ok (.iload_n 1, 1) := by decide +kernel
theorem dX11_fillsWalks_7 : decode cX11_fillsWalks 7 = .ok (.aload_n 0, 1) := by decide +kernel
theorem dX11_fillsWalks_8 : decode cX11_fillsWalks 8 = .ok (.getfield 49, 3) := by decide +kernel
theorem dX11_fillsWalks_11 : decode cX11_fillsWalks 11 = .ok (.aload_n 0, 1) := by decide +kernel
theorem dX11_fillsWalks_12 : decode cX11_fillsWalks 12 = .ok (.getfield 254, 3) := by decide +kernel
theorem dX11_fillsWalks_15 : decode cX11_fillsWalks 15 = .ok (.iaload, 1) := by decide +kernel
theorem dX11_fillsWalks_16 : decode cX11_fillsWalks 16 = .ok (.if_icmp .ge 58, 3) := by decide +kernel
theorem dX11_fillsWalks_19 : decode cX11_fillsWalks 19 = .ok (.aload_n 0, 1) := by decide +kernel
theorem dX11_fillsWalks_20 : decode cX11_fillsWalks 20 = .ok (.getfield 158, 3) := by decide +kernel
theorem dX11_fillsWalks_23 : decode cX11_fillsWalks 23 = .ok (.iload_n 1, 1) := by decide +kernel
theorem dX11_fillsWalks_24 : decode cX11_fillsWalks 24 = .ok (.aload_n 0, 1) := by decide +kernel
theorem dX11_fillsWalks_25 : decode cX11_fillsWalks 25 = .ok (.iload_n 1, 1) := by decide +kernel
theorem dX11_fillsWalks_26 : decode cX11_fillsWalks 26 = .ok (.invokevirtual 451, 3) := by decide +kernel
theorem dX11_fillsWalks_29 : decode cX11_fillsWalks 29 = .ok (.iastore, 1) := by decide +kernel
theorem dX11_fillsWalks_30 : decode cX11_fillsWalks 30 = .ok (.iconst 0, 1) := by decide +kernel
theorem dX11_fillsWalks_31 : decode cX11_fillsWalks 31 = .ok (.istore_n 2, 1) := by decide +kernel
theorem dX11_fillsWalks_32 : decode cX11_fillsWalks 32 = .ok (.iload_n 2, 1) := by decide +kernel
theorem dX11_fillsWalks_33 : decode cX11_fillsWalks 33 = .ok (.aload_n 0, 1) := by decide +kernel
theorem dX11_fillsWalks_34 : decode cX11_fillsWalks 34 = .ok (.getfield 49, 3) := by decide +kernel
theorem dX11_fillsWalks_37 : decode cX11_fillsWalks 37 = .ok (.aload_n 0, 1) := by decide +kernel
theorem dX11_fillsWalks_38 : decode cX11_fillsWalks 38 = .ok (.getfield 254, 3) := by decide +kernel
theorem dX11_fillsWalks_41 : decode cX11_fillsWalks 41 = .ok (.iaload, 1) := by decide +kernel
theorem dX11_fillsWalks_42 : decode cX11_fillsWalks 42 = .ok (.if_icmp .ge 26, 3) := by decide +kernel
theorem dX11_fillsWalks_45 : decode cX11_fillsWalks 45 = .ok (.aload_n 0, 1) := by decide +kernel
theorem dX11_fillsWalks_46 : decode cX11_fillsWalks 46 = .ok (.getfield 155, 3) := by decide +kernel
theorem dX11_fillsWalks_49 : decode cX11_fillsWalks 49 = .ok (.bipush 7, 2) := by decide +kernel
theorem dX11_fillsWalks_51 : decode cX11_fillsWalks 51 = .ok (.iload_n 1, 1) := by decide +kernel
theorem dX11_fillsWalks_52 : decode cX11_fillsWalks 52 = .ok (.imul, 1) := by decide +kernel
theorem dX11_fillsWalks_53 : decode cX11_fillsWalks 53 = .ok (.iload_n 2, 1) := by decide +kernel
theorem dX11_fillsWalks_54 : decode cX11_fillsWalks 54 = .ok (.iadd, 1) := by decide +kernel
theorem dX11_fillsWalks_55 : decode cX11_fillsWalks 55 = .ok (.aload_n 0, 1) := by decide +kernel
theorem dX11_fillsWalks_56 : decode cX11_fillsWalks 56 = .ok (.iload_n 1, 1) := by decide +kernel
theorem dX11_fillsWalks_57 : decode cX11_fillsWalks 57 = .ok (.iload_n 2, 1) := by decide +kernel
theorem dX11_fillsWalks_58 : decode cX11_fillsWalks 58 = .ok (.invokevirtual 448, 3) := by decide +kernel
theorem dX11_fillsWalks_61 : decode cX11_fillsWalks 61 = .ok (.iastore, 1) := by decide +kernel
theorem dX11_fillsWalks_62 : decode cX11_fillsWalks 62 = .ok (.iinc 2 1, 3) := by decide +kernel
theorem dX11_fillsWalks_65 : decode cX11_fillsWalks 65 = .ok (.goto (-33), 3) := by decide +kernel
theorem dX11_fillsWalks_68 : decode cX11_fillsWalks 68 = .ok (.iinc 1 1, 3) := by decide +kernel
theorem dX11_fillsWalks_71 : decode cX11_fillsWalks 71 = .ok (.goto (-65), 3) := by decide +kernel
theorem dX11_fillsWalks_74 : decode cX11_fillsWalks 74 = .ok (.return_, 1) := by decide +kernel
theorem dX11_nextOf_0 : decode cX11_nextOf 0 = .ok (.iload_n 1, 1) := by decide +kernel
theorem dX11_nextOf_1 : decode cX11_nextOf 1 = .ok (.iconst 1, 1) := by decide +kernel
theorem dX11_nextOf_2 : decode cX11_nextOf 2 = .ok (.iload_n 2, 1) := by decide +kernel
theorem dX11_nextOf_3 : decode cX11_nextOf 3 = .ok (.ishl, 1) := by decide +kernel
theorem dX11_nextOf_4 : decode cX11_nextOf 4 = .ok (.iconst (-1), 1) := by decide +kernel
theorem dX11_nextOf_5 : decode cX11_nextOf 5 = .ok (.ixor, 1) := by decide +kernel
theorem dX11_nextOf_6 : decode cX11_nextOf 6 = .ok (.iand, 1) := by decide +kernel
theorem dX11_nextOf_7 : decode cX11_nextOf 7 = .ok (.istore_n 3, 1) := by decide +kernel
theorem dX11_nextOf_8 : decode cX11_nextOf 8 = .ok (.iconst (-1), 1) := by decide +kernel
theorem dX11_nextOf_9 : decode cX11_nextOf 9 = .ok (.istore 4, 2) := by decide +kernel
theorem dX11_nextOf_11 : decode cX11_nextOf 11 = .ok (.iconst 0, 1) := by decide +kernel
theorem dX11_nextOf_12 : decode cX11_nextOf 12 = .ok (.istore 5, 2) := by decide +kernel
theorem dX11_nextOf_14 : decode cX11_nextOf 14 = .ok (.iload 5, 2) := by decide +kernel
theorem dX11_nextOf_16 : decode cX11_nextOf 16 = .ok (.aload_n 0, 1) := by decide +kernel
theorem dX11_nextOf_17 : decode cX11_nextOf 17 = .ok (.getfield 49, 3) := by decide +kernel
theorem dX11_nextOf_20 : decode cX11_nextOf 20 = .ok (.aload_n 0, 1) := by decide +kernel
theorem dX11_nextOf_21 : decode cX11_nextOf 21 = .ok (.getfield 254, 3) := by decide +kernel
theorem dX11_nextOf_24 : decode cX11_nextOf 24 = .ok (.iaload, 1) := by decide +kernel
theorem dX11_nextOf_25 : decode cX11_nextOf 25 = .ok (.if_icmp .ge 81, 3) := by decide +kernel
theorem dX11_nextOf_28 : decode cX11_nextOf 28 = .ok (.iload_n 3, 1) := by decide +kernel
theorem dX11_nextOf_29 : decode cX11_nextOf 29 = .ok (.iload 5, 2) := by decide +kernel
theorem dX11_nextOf_31 : decode cX11_nextOf 31 = .ok (.ishr, 1) := by decide +kernel
theorem dX11_nextOf_32 : decode cX11_nextOf 32 = .ok (.iconst 1, 1) := by decide +kernel
theorem dX11_nextOf_33 : decode cX11_nextOf 33 = .ok (.iand, 1) := by decide +kernel
theorem dX11_nextOf_34 : decode cX11_nextOf 34 = .ok (.iconst 1, 1) := by decide +kernel
theorem dX11_nextOf_35 : decode cX11_nextOf 35 = .ok (.if_icmp .ne 65, 3) := by decide +kernel
theorem dX11_nextOf_38 : decode cX11_nextOf 38 = .ok (.iload 4, 2) := by decide +kernel
theorem dX11_nextOf_40 : decode cX11_nextOf 40 = .ok (.ifCond .lt 56, 3) := by decide +kernel
theorem dX11_nextOf_43 : decode cX11_nextOf 43 = .ok (.aload_n 0, 1) := by decide +kernel
theorem dX11_nextOf_44 : decode cX11_nextOf 44 = .ok (.getfield 155, 3) := by decide +kernel
theorem dX11_nextOf_47 : decode cX11_nextOf 47 = .ok (.bipush 7, 2) := by decide +kernel
theorem dX11_nextOf_49 : decode cX11_nextOf 49 = .ok (.iload_n 2, 1) := by decide +kernel
theorem dX11_nextOf_50 : decode cX11_nextOf 50 = .ok (.imul, 1) := by decide +kernel
theorem dX11_nextOf_51 : decode cX11_nextOf 51 = .ok (.iload 5, 2) := by decide +kernel
theorem dX11_nextOf_53 : decode cX11_nextOf 53 = .ok (.iadd, 1) := by decide +kernel
theorem dX11_nextOf_54 : decode cX11_nextOf 54 = .ok (.iaload, 1) := by decide +kernel
theorem dX11_nextOf_55 : decode cX11_nextOf 55 = .ok (.aload_n 0, 1) := by decide +kernel
theorem dX11_nextOf_56 : decode cX11_nextOf 56 = .ok (.getfield 152, 3) := by decide +kernel
theorem dX11_nextOf_59 : decode cX11_nextOf 59 = .ok (.bipush 7, 2) := by decide +kernel
theorem dX11_nextOf_61 : decode cX11_nextOf 61 = .ok (.iload_n 3, 1) := by decide +kernel
theorem dX11_nextOf_62 : decode cX11_nextOf 62 = .ok (.imul, 1) := by decide +kernel
theorem dX11_nextOf_63 : decode cX11_nextOf 63 = .ok (.iload 5, 2) := by decide +kernel
theorem dX11_nextOf_65 : decode cX11_nextOf 65 = .ok (.iadd, 1) := by decide +kernel
theorem dX11_nextOf_66 : decode cX11_nextOf 66 = .ok (.iaload, 1) := by decide +kernel
theorem dX11_nextOf_67 : decode cX11_nextOf 67 = .ok (.iadd, 1) := by decide +kernel
theorem dX11_nextOf_68 : decode cX11_nextOf 68 = .ok (.aload_n 0, 1) := by decide +kernel
theorem dX11_nextOf_69 : decode cX11_nextOf 69 = .ok (.getfield 155, 3) := by decide +kernel
theorem dX11_nextOf_72 : decode cX11_nextOf 72 = .ok (.bipush 7, 2) := by decide +kernel
theorem dX11_nextOf_74 : decode cX11_nextOf 74 = .ok (.iload_n 2, 1) := by decide +kernel
theorem dX11_nextOf_75 : decode cX11_nextOf 75 = .ok (.imul, 1) := by decide +kernel
theorem dX11_nextOf_76 : decode cX11_nextOf 76 = .ok (.iload 4, 2) := by decide +kernel
theorem dX11_nextOf_78 : decode cX11_nextOf 78 = .ok (.iadd, 1) := by decide +kernel
theorem dX11_nextOf_79 : decode cX11_nextOf 79 = .ok (.iaload, 1) := by decide +kernel
theorem dX11_nextOf_80 : decode cX11_nextOf 80 = .ok (.aload_n 0, 1) := by decide +kernel
theorem dX11_nextOf_81 : decode cX11_nextOf 81 = .ok (.getfield 152, 3) := by decide +kernel
theorem dX11_nextOf_84 : decode cX11_nextOf 84 = .ok (.bipush 7, 2) := by decide +kernel
theorem dX11_nextOf_86 : decode cX11_nextOf 86 = .ok (.iload_n 3, 1) := by decide +kernel
theorem dX11_nextOf_87 : decode cX11_nextOf 87 = .ok (.imul, 1) := by decide +kernel
theorem dX11_nextOf_88 : decode cX11_nextOf 88 = .ok (.iload 4, 2) := by decide +kernel
theorem dX11_nextOf_90 : decode cX11_nextOf 90 = .ok (.iadd, 1) := by decide +kernel
theorem dX11_nextOf_91 : decode cX11_nextOf 91 = .ok (.iaload, 1) := by decide +kernel
theorem dX11_nextOf_92 : decode cX11_nextOf 92 = .ok (.iadd, 1) := by decide +kernel
theorem dX11_nextOf_93 : decode cX11_nextOf 93 = .ok (.if_icmp .ge 7, 3) := by decide +kernel
theorem dX11_nextOf_96 : decode cX11_nextOf 96 = .ok (.iload 5, 2) := by decide +kernel
theorem dX11_nextOf_98 : decode cX11_nextOf 98 = .ok (.istore 4, 2) := by decide +kernel
theorem dX11_nextOf_100 : decode cX11_nextOf 100 = .ok (.iinc 5 1, 3) := by decide +kernel
theorem dX11_nextOf_103 : decode cX11_nextOf 103 = .ok (.goto (-89), 3) := by decide +kernel
theorem dX11_nextOf_106 : decode cX11_nextOf 106 = .ok (.iload 4, 2) := by decide +kernel
theorem dX11_nextOf_108 : decode cX11_nextOf 108 = .ok (.ireturn, 1) := by decide +kernel
theorem dX11_fillsTakes_0 : decode cX11_fillsTakes 0 = .ok (.aload_n 0, 1) := by decide +kernel
theorem dX11_fillsTakes_1 : decode cX11_fillsTakes 1 = .ok (.invokevirtual 454, 3) := by decide +kernel
theorem dX11_fillsTakes_4 : decode cX11_fillsTakes 4 = .ok (.iconst 0, 1) := by decide +kernel
theorem dX11_fillsTakes_5 : decode cX11_fillsTakes 5 = .ok (.istore_n 1, 1) := by decide +kernel
theorem dX11_fillsTakes_6 : decode cX11_fillsTakes 6 = .ok (.iload_n 1, 1) := by decide +kernel
theorem dX11_fillsTakes_7 : decode cX11_fillsTakes 7 = .ok (.iconst 1, 1) := by decide +kernel
theorem dX11_fillsTakes_8 : decode cX11_fillsTakes 8 = .ok (.aload_n 0, 1) := by decide +kernel
theorem dX11_fillsTakes_9 : decode cX11_fillsTakes 9 = .ok (.getfield 49, 3) := by decide +kernel
theorem dX11_fillsTakes_12 : decode cX11_fillsTakes 12 = .ok (.aload_n 0, 1) := by decide +kernel
theorem dX11_fillsTakes_13 : decode cX11_fillsTakes 13 = .ok (.getfield 254, 3) := by decide +kernel
theorem dX11_fillsTakes_16 : decode cX11_fillsTakes 16 = .ok (.iaload, 1) := by decide +kernel
theorem dX11_fillsTakes_17 : decode cX11_fillsTakes 17 = .ok (.ishl, 1) := by decide +kernel
theorem dX11_fillsTakes_18 : decode cX11_fillsTakes 18 = .ok (.if_icmp .ge 117, 3) := by decide +kernel
theorem dX11_fillsTakes_21 : decode cX11_fillsTakes 21 = .ok (.iconst 0, 1) := by decide +kernel
theorem dX11_fillsTakes_22 : decode cX11_fillsTakes 22 = .ok (.istore_n 2, 1) := by decide +kernel
theorem dX11_fillsTakes_23 : decode cX11_fillsTakes 23 = .ok (.iload_n 2, 1) := by decide +kernel
theorem dX11_fillsTakes_24 : decode cX11_fillsTakes 24 = .ok (.aload_n 0, 1) := by decide +kernel
theorem dX11_fillsTakes_25 : decode cX11_fillsTakes 25 = .ok (.getfield 49, 3) := by decide +kernel
theorem dX11_fillsTakes_28 : decode cX11_fillsTakes 28 = .ok (.aload_n 0, 1) := by decide +kernel
theorem dX11_fillsTakes_29 : decode cX11_fillsTakes 29 = .ok (.getfield 254, 3) := by decide +kernel
theorem dX11_fillsTakes_32 : decode cX11_fillsTakes 32 = .ok (.iaload, 1) := by decide +kernel
theorem dX11_fillsTakes_33 : decode cX11_fillsTakes 33 = .ok (.if_icmp .ge 96, 3) := by decide +kernel
theorem dX11_fillsTakes_36 : decode cX11_fillsTakes 36 = .ok (.aload_n 0, 1) := by decide +kernel
theorem dX11_fillsTakes_37 : decode cX11_fillsTakes 37 = .ok (.getfield 152, 3) := by decide +kernel
theorem dX11_fillsTakes_40 : decode cX11_fillsTakes 40 = .ok (.bipush 7, 2) := by decide +kernel
theorem dX11_fillsTakes_42 : decode cX11_fillsTakes 42 = .ok (.iload_n 1, 1) := by decide +kernel
theorem dX11_fillsTakes_43 : decode cX11_fillsTakes 43 = .ok (.imul, 1) := by decide +kernel
theorem dX11_fillsTakes_44 : decode cX11_fillsTakes 44 = .ok (.iload_n 2, 1) := by decide +kernel
theorem dX11_fillsTakes_45 : decode cX11_fillsTakes 45 = .ok (.iadd, 1) := by decide +kernel
theorem dX11_fillsTakes_46 : decode cX11_fillsTakes 46 = .ok (.ldc_w 457, 3) := by decide +kernel
theorem dX11_fillsTakes_49 : decode cX11_fillsTakes 49 = .ok (.iastore, 1) := by decide +kernel
theorem dX11_fillsTakes_50 : decode cX11_fillsTakes 50 = .ok (.iload_n 1, 1) := by decide +kernel
theorem dX11_fillsTakes_51 : decode cX11_fillsTakes 51 = .ok (.iload_n 2, 1) := by decide +kernel
theorem dX11_fillsTakes_52 : decode cX11_fillsTakes 52 = .ok (.ishr, 1) := by decide +kernel
theorem dX11_fillsTakes_53 : decode cX11_fillsTakes 53 = .ok (.iconst 1, 1) := by decide +kernel
theorem dX11_fillsTakes_54 : decode cX11_fillsTakes 54 = .ok (.iand, 1) := by decide +kernel
theorem dX11_fillsTakes_55 : decode cX11_fillsTakes 55 = .ok (.ifCond .ne 6, 3) := by decide +kernel
theorem dX11_fillsTakes_58 : decode cX11_fillsTakes 58 = .ok (.goto 65, 3) := by decide +kernel
theorem dX11_fillsTakes_61 : decode cX11_fillsTakes 61 = .ok (.aload_n 0, 1) := by decide +kernel
theorem dX11_fillsTakes_62 : decode cX11_fillsTakes 62 = .ok (.iload_n 1, 1) := by decide +kernel
theorem dX11_fillsTakes_63 : decode cX11_fillsTakes 63 = .ok (.iload_n 2, 1) := by decide +kernel
theorem dX11_fillsTakes_64 : decode cX11_fillsTakes 64 = .ok (.invokevirtual 458, 3) := by decide +kernel
theorem dX11_fillsTakes_67 : decode cX11_fillsTakes 67 = .ok (.istore_n 3, 1) := by decide +kernel
theorem dX11_fillsTakes_68 : decode cX11_fillsTakes 68 = .ok (.aload_n 0, 1) := by decide +kernel
theorem dX11_fillsTakes_69 : decode cX11_fillsTakes 69 = .ok (.getfield 152, 3) := by decide +kernel
theorem dX11_fillsTakes_72 : decode cX11_fillsTakes 72 = .ok (.bipush 7, 2) := by decide +kernel
theorem dX11_fillsTakes_74 : decode cX11_fillsTakes 74 = .ok (.iload_n 1, 1) := by decide +kernel
theorem dX11_fillsTakes_75 : decode cX11_fillsTakes 75 = .ok (.imul, 1) := by decide +kernel
theorem dX11_fillsTakes_76 : decode cX11_fillsTakes 76 = .ok (.iload_n 2, 1) := by decide +kernel
theorem dX11_fillsTakes_77 : decode cX11_fillsTakes 77 = .ok (.iadd, 1) := by decide +kernel
theorem dX11_fillsTakes_78 : decode cX11_fillsTakes 78 = .ok (.aload_n 0, 1) := by decide +kernel
theorem dX11_fillsTakes_79 : decode cX11_fillsTakes 79 = .ok (.getfield 158, 3) := by decide +kernel
theorem dX11_fillsTakes_82 : decode cX11_fillsTakes 82 = .ok (.iload_n 2, 1) := by decide +kernel
theorem dX11_fillsTakes_83 : decode cX11_fillsTakes 83 = .ok (.iaload, 1) := by decide +kernel
theorem dX11_fillsTakes_84 : decode cX11_fillsTakes 84 = .ok (.iload_n 3, 1) := by decide +kernel
theorem dX11_fillsTakes_85 : decode cX11_fillsTakes 85 = .ok (.ifCond .ge 7, 3) := by decide +kernel
theorem dX11_fillsTakes_88 : decode cX11_fillsTakes 88 = .ok (.iconst 0, 1) := by decide +kernel
theorem dX11_fillsTakes_89 : decode cX11_fillsTakes 89 = .ok (.goto 32, 3) := by decide +kernel
theorem dX11_fillsTakes_92 : decode cX11_fillsTakes 92 = .ok (.aload_n 0, 1) := by decide +kernel
theorem dX11_fillsTakes_93 : decode cX11_fillsTakes 93 = .ok (.getfield 155, 3) := by decide +kernel
theorem dX11_fillsTakes_96 : decode cX11_fillsTakes 96 = .ok (.bipush 7, 2) := by decide +kernel
theorem dX11_fillsTakes_98 : decode cX11_fillsTakes 98 = .ok (.iload_n 2, 1) := by decide +kernel
theorem dX11_fillsTakes_99 : decode cX11_fillsTakes 99 = .ok (.imul, 1) := by decide +kernel
theorem dX11_fillsTakes_100 : decode cX11_fillsTakes 100 = .ok (.iload_n 3, 1) := by decide +kernel
theorem dX11_fillsTakes_101 : decode cX11_fillsTakes 101 = .ok (.iadd, 1) := by decide +kernel
theorem dX11_fillsTakes_102 : decode cX11_fillsTakes 102 = .ok (.iaload, 1) := by decide +kernel
theorem dX11_fillsTakes_103 : decode cX11_fillsTakes 103 = .ok (.aload_n 0, 1) := by decide +kernel
theorem dX11_fillsTakes_104 : decode cX11_fillsTakes 104 = .ok (.getfield 152, 3) := by decide +kernel
theorem dX11_fillsTakes_107 : decode cX11_fillsTakes 107 = .ok (.bipush 7, 2) := by decide +kernel
theorem dX11_fillsTakes_109 : decode cX11_fillsTakes 109 = .ok (.iload_n 1, 1) := by decide +kernel
theorem dX11_fillsTakes_110 : decode cX11_fillsTakes 110 = .ok (.iconst 1, 1) := by decide +kernel
theorem dX11_fillsTakes_111 : decode cX11_fillsTakes 111 = .ok (.iload_n 2, 1) := by decide +kernel
theorem dX11_fillsTakes_112 : decode cX11_fillsTakes 112 = .ok (.ishl, 1) := by decide +kernel
theorem dX11_fillsTakes_113 : decode cX11_fillsTakes 113 = .ok (.iconst (-1), 1) := by decide +kernel
theorem dX11_fillsTakes_114 : decode cX11_fillsTakes 114 = .ok (.ixor, 1) := by decide +kernel
theorem dX11_fillsTakes_115 : decode cX11_fillsTakes 115 = .ok (.iand, 1) := by decide +kernel
theorem dX11_fillsTakes_116 : decode cX11_fillsTakes 116 = .ok (.imul, 1) := by decide +kernel
theorem dX11_fillsTakes_117 : decode cX11_fillsTakes 117 = .ok (.iload_n 3, 1) := by decide +kernel
theorem dX11_fillsTakes_118 : decode cX11_fillsTakes 118 = .ok (.iadd, 1) := by decide +kernel
theorem dX11_fillsTakes_119 : decode cX11_fillsTakes 119 = .ok (.iaload, 1) := by decide +kernel
theorem dX11_fillsTakes_120 : decode cX11_fillsTakes 120 = .ok (.iadd, 1) := by decide +kernel
theorem dX11_fillsTakes_121 : decode cX11_fillsTakes 121 = .ok (.iadd, 1) := by decide +kernel
theorem dX11_fillsTakes_122 : decode cX11_fillsTakes 122 = .ok (.iastore, 1) := by decide +kernel
theorem dX11_fillsTakes_123 : decode cX11_fillsTakes 123 = .ok (.iinc 2 1, 3) := by decide +kernel
theorem dX11_fillsTakes_126 : decode cX11_fillsTakes 126 = .ok (.goto (-103), 3) := by decide +kernel
theorem dX11_fillsTakes_129 : decode cX11_fillsTakes 129 = .ok (.iinc 1 1, 3) := by decide +kernel
theorem dX11_fillsTakes_132 : decode cX11_fillsTakes 132 = .ok (.goto (-126), 3) := by decide +kernel
theorem dX11_fillsTakes_135 : decode cX11_fillsTakes 135 = .ok (.return_, 1) := by decide +kernel
theorem dX11_round_0 : decode cX11_round 0 = .ok (.iload_n 1, 1) := by decide +kernel
theorem dX11_round_1 : decode cX11_round 1 = .ok (.iconst 0, 1) := by decide +kernel
theorem dX11_round_2 : decode cX11_round 2 = .ok (.iconst 1, 1) := by decide +kernel
theorem dX11_round_3 : decode cX11_round 3 = .ok (.aload_n 0, 1) := by decide +kernel
theorem dX11_round_4 : decode cX11_round 4 = .ok (.getfield 49, 3) := by decide +kernel
theorem dX11_round_7 : decode cX11_round 7 = .ok (.aload_n 0, 1) := by decide +kernel
theorem dX11_round_8 : decode cX11_round 8 = .ok (.getfield 254, 3) := by decide +kernel
theorem dX11_round_11 : decode cX11_round 11 = .ok (.iaload, 1) := by decide +kernel
theorem dX11_round_12 : decode cX11_round 12 = .ok (.ishl, 1) := by decide +kernel
theorem dX11_round_13 : decode cX11_round 13 = .ok (.iconst 1, 1) := by decide +kernel
theorem dX11_round_14 : decode cX11_round 14 = .ok (.isub, 1) := by decide +kernel
theorem dX11_round_15 : decode cX11_round 15 = .ok (.invokestatic 340, 3) := by decide +kernel
theorem dX11_round_18 : decode cX11_round 18 = .ok (.ifCond .eq 17, 3) := by decide +kernel
theorem dX11_round_21 : decode cX11_round 21 = .ok (.iload_n 2, 1) := by decide +kernel
theorem dX11_round_22 : decode cX11_round 22 = .ok (.iconst (-1), 1) := by decide +kernel
theorem dX11_round_23 : decode cX11_round 23 = .ok (.iload_n 1, 1) := by decide +kernel
theorem dX11_round_24 : decode cX11_round 24 = .ok (.invokestatic 366, 3) := by decide +kernel
theorem dX11_round_27 : decode cX11_round 27 = .ok (.iconst 1, 1) := by decide +kernel
theorem dX11_round_28 : decode cX11_round 28 = .ok (.isub, 1) := by decide +kernel
theorem dX11_round_29 : decode cX11_round 29 = .ok (.invokestatic 340, 3) := by decide +kernel
theorem dX11_round_32 : decode cX11_round 32 = .ok (.ifCond .ne 5, 3) := by decide +kernel
theorem dX11_round_35 : decode cX11_round 35 = .ok (.iconst (-1), 1) := by decide +kernel
theorem dX11_round_36 : decode cX11_round 36 = .ok (.ireturn, 1) := by decide +kernel
theorem dX11_round_37 : decode cX11_round 37 = .ok (.iload_n 1, 1) := by decide +kernel
theorem dX11_round_38 : decode cX11_round 38 = .ok (.ifCond .ne 5, 3) := by decide +kernel
theorem dX11_round_41 : decode cX11_round 41 = .ok (.iconst 0, 1) := by decide +kernel
theorem dX11_round_42 : decode cX11_round 42 = .ok (.ireturn, 1) := by decide +kernel
theorem dX11_round_43 : decode cX11_round 43 = .ok (.aload_n 0, 1) := by decide +kernel
theorem dX11_round_44 : decode cX11_round 44 = .ok (.invokevirtual 461, 3) := by decide +kernel
theorem dX11_round_47 : decode cX11_round 47 = .ok (.iconst (-1), 1) := by decide +kernel
theorem dX11_round_48 : decode cX11_round 48 = .ok (.istore_n 3, 1) := by decide +kernel
theorem dX11_round_49 : decode cX11_round 49 = .ok (.iconst 0, 1) := by decide +kernel
theorem dX11_round_50 : decode cX11_round 50 = .ok (.istore 4, 2) := by decide +kernel
theorem dX11_round_52 : decode cX11_round 52 = .ok (.iload 4, 2) := by decide +kernel
theorem dX11_round_54 : decode cX11_round 54 = .ok (.aload_n 0, 1) := by decide +kernel
theorem dX11_round_55 : decode cX11_round 55 = .ok (.getfield 49, 3) := by decide +kernel
theorem dX11_round_58 : decode cX11_round 58 = .ok (.aload_n 0, 1) := by decide +kernel
theorem dX11_round_59 : decode cX11_round 59 = .ok (.getfield 254, 3) := by decide +kernel
theorem dX11_round_62 : decode cX11_round 62 = .ok (.iaload, 1) := by decide +kernel
theorem dX11_round_63 : decode cX11_round 63 = .ok (.if_icmp .ge 52, 3) := by decide +kernel
theorem dX11_round_66 : decode cX11_round 66 = .ok (.iload_n 1, 1) := by decide +kernel
theorem dX11_round_67 : decode cX11_round 67 = .ok (.iload 4, 2) := by decide +kernel
theorem dX11_round_69 : decode cX11_round 69 = .ok (.ishr, 1) := by decide +kernel
theorem dX11_round_70 : decode cX11_round 70 = .ok (.iconst 1, 1) := by decide +kernel
theorem dX11_round_71 : decode cX11_round 71 = .ok (.iand, 1) := by decide +kernel
theorem dX11_round_72 : decode cX11_round 72 = .ok (.iconst 1, 1) := by decide +kernel
theorem dX11_round_73 : decode cX11_round 73 = .ok (.if_icmp .ne 36, 3) := by decide +kernel
theorem dX11_round_76 : decode cX11_round 76 = .ok (.iload_n 3, 1) := by decide +kernel
theorem dX11_round_77 : decode cX11_round 77 = .ok (.ifCond .lt 29, 3) := by decide +kernel
theorem dX11_round_80 : decode cX11_round 80 = .ok (.aload_n 0, 1) := by decide +kernel
theorem dX11_round_81 : decode cX11_round 81 = .ok (.getfield 152, 3) := by decide +kernel
theorem dX11_round_84 : decode cX11_round 84 = .ok (.bipush 7, 2) := by decide +kernel
theorem dX11_round_86 : decode cX11_round 86 = .ok (.iload_n 1, 1) := by decide +kernel
theorem dX11_round_87 : decode cX11_round 87 = .ok (.imul, 1) := by decide +kernel
theorem dX11_round_88 : decode cX11_round 88 = .ok (.iload 4, 2) := by decide +kernel
theorem dX11_round_90 : decode cX11_round 90 = .ok (.iadd, 1) := by decide +kernel
theorem dX11_round_91 : decode cX11_round 91 = .ok (.iaload, 1) := by decide +kernel
theorem dX11_round_92 : decode cX11_round 92 = .ok (.aload_n 0, 1) := by decide +kernel
theorem dX11_round_93 : decode cX11_round 93 = .ok (.getfield 152, 3) := by decide +kernel
theorem dX11_round_96 : decode cX11_round 96 = .ok (.bipush 7, 2) := by decide +kernel
theorem dX11_round_98 : decode cX11_round 98 = .ok (.iload_n 1, 1) := by decide +kernel
theorem dX11_round_99 : decode cX11_round 99 = .ok (.imul, 1) := by decide +kernel
theorem dX11_round_100 : decode cX11_round 100 = .ok (.iload_n 3, 1) := by decide +kernel
theorem dX11_round_101 : decode cX11_round 101 = .ok (.iadd, 1) := by decide +kernel
theorem dX11_round_102 : decode cX11_round 102 = .ok (.iaload, 1) := by decide +kernel
theorem dX11_round_103 : decode cX11_round 103 = .ok (.if_icmp .ge 6, 3) := by decide +kernel
theorem dX11_round_106 : decode cX11_round 106 = .ok (.iload 4, 2) := by decide +kernel
theorem dX11_round_108 : decode cX11_round 108 = .ok (.istore_n 3, 1) := by decide +kernel
theorem dX11_round_109 : decode cX11_round 109 = .ok (.iinc 4 1, 3) := by decide +kernel
theorem dX11_round_112 : decode cX11_round 112 = .ok (.goto (-60), 3) := by decide +kernel
theorem dX11_round_115 : decode cX11_round 115 = .ok (.iload_n 2, 1) := by decide +kernel
theorem dX11_round_116 : decode cX11_round 116 = .ok (.iconst (-1), 1) := by decide +kernel
theorem dX11_round_117 : decode cX11_round 117 = .ok (.if_icmp .ne 15, 3) := by decide +kernel
theorem dX11_round_120 : decode cX11_round 120 = .ok (.aload_n 0, 1) := by decide +kernel
theorem dX11_round_121 : decode cX11_round 121 = .ok (.getfield 152, 3) := by decide +kernel
theorem dX11_round_124 : decode cX11_round 124 = .ok (.bipush 7, 2) := by decide +kernel
theorem dX11_round_126 : decode cX11_round 126 = .ok (.iload_n 1, 1) := by decide +kernel
theorem dX11_round_127 : decode cX11_round 127 = .ok (.imul, 1) := by decide +kernel
theorem dX11_round_128 : decode cX11_round 128 = .ok (.iload_n 3, 1) := by decide +kernel
theorem dX11_round_129 : decode cX11_round 129 = .ok (.iadd, 1) := by decide +kernel
theorem dX11_round_130 : decode cX11_round 130 = .ok (.iaload, 1) := by decide +kernel
theorem dX11_round_131 : decode cX11_round 131 = .ok (.ireturn, 1) := by decide +kernel
theorem dX11_round_132 : decode cX11_round 132 = .ok (.iload_n 1, 1) := by decide +kernel
theorem dX11_round_133 : decode cX11_round 133 = .ok (.istore 4, 2) := by decide +kernel
theorem dX11_round_135 : decode cX11_round 135 = .ok (.iconst 0, 1) := by decide +kernel
theorem dX11_round_136 : decode cX11_round 136 = .ok (.istore 5, 2) := by decide +kernel
theorem dX11_round_138 : decode cX11_round 138 = .ok (.iload 5, 2) := by decide +kernel
theorem dX11_round_140 : decode cX11_round 140 = .ok (.iload_n 2, 1) := by decide +kernel
theorem dX11_round_141 : decode cX11_round 141 = .ok (.if_icmp .ge 31, 3) := by decide +kernel
theorem dX11_round_144 : decode cX11_round 144 = .ok (.aload_n 0, 1) := by decide +kernel
theorem dX11_round_145 : decode cX11_round 145 = .ok (.iload 4, 2) := by decide +kernel
theorem dX11_round_147 : decode cX11_round 147 = .ok (.iload_n 3, 1) := by decide +kernel
theorem dX11_round_148 : decode cX11_round 148 = .ok (.invokevirtual 458, 3) := by decide +kernel
theorem dX11_round_151 : decode cX11_round 151 = .ok (.istore 6, 2) := by decide +kernel
theorem dX11_round_153 : decode cX11_round 153 = .ok (.iload 4, 2) := by decide +kernel
theorem dX11_round_155 : decode cX11_round 155 = .ok (.iconst 1, 1) := by decide +kernel
theorem dX11_round_156 : decode cX11_round 156 = .ok (.iload_n 3, 1) := by decide +kernel
theorem dX11_round_157 : decode cX11_round 157 = .ok (.ishl, 1) := by decide +kernel
theorem dX11_round_158 : decode cX11_round 158 = .ok (.iconst (-1), 1) := by decide +kernel
theorem dX11_round_159 : decode cX11_round 159 = .ok (.ixor, 1) := by decide +kernel
theorem dX11_round_160 : decode cX11_round 160 = .ok (.iand, 1) := by decide +kernel
theorem dX11_round_161 : decode cX11_round 161 = .ok (.istore 4, 2) := by decide +kernel
theorem dX11_round_163 : decode cX11_round 163 = .ok (.iload 6, 2) := by decide +kernel
theorem dX11_round_165 : decode cX11_round 165 = .ok (.istore_n 3, 1) := by decide +kernel
theorem dX11_round_166 : decode cX11_round 166 = .ok (.iinc 5 1, 3) := by decide +kernel
theorem dX11_round_169 : decode cX11_round 169 = .ok (.goto (-31), 3) := by decide +kernel
theorem dX11_round_172 : decode cX11_round 172 = .ok (.iload_n 3, 1) := by decide +kernel
theorem dX11_round_173 : decode cX11_round 173 = .ok (.ireturn, 1) := by decide +kernel
theorem dX11_within_0 : decode cX11_within 0 = .ok (.aload_n 0, 1) := by decide +kernel
theorem dX11_within_1 : decode cX11_within 1 = .ok (.iload_n 1, 1) := by decide +kernel
theorem dX11_within_2 : decode cX11_within 2 = .ok (.invokevirtual 397, 3) := by decide +kernel
theorem dX11_within_5 : decode cX11_within 5 = .ok (.ifCond .eq 14, 3) := by decide +kernel
theorem dX11_within_8 : decode cX11_within 8 = .ok (.iload_n 2, 1) := by decide +kernel
theorem dX11_within_9 : decode cX11_within 9 = .ok (.iconst 0, 1) := by decide +kernel
theorem dX11_within_10 : decode cX11_within 10 = .ok (.sipush 999, 3) := by decide +kernel
theorem dX11_within_13 : decode cX11_within 13 = .ok (.invokestatic 340, 3) := by decide +kernel
theorem dX11_within_16 : decode cX11_within 16 = .ok (.ifCond .ne 5, 3) := by decide +kernel
theorem dX11_within_19 : decode cX11_within 19 = .ok (.iconst (-1), 1) := by decide +kernel
theorem dX11_within_20 : decode cX11_within 20 = .ok (.ireturn, 1) := by decide +kernel
theorem dX11_within_21 : decode cX11_within 21 = .ok (.aload_n 0, 1) := by decide +kernel
theorem dX11_within_22 : decode cX11_within 22 = .ok (.invokevirtual 454, 3) := by decide +kernel
theorem dX11_within_25 : decode cX11_within 25 = .ok (.iconst 0, 1) := by decide +kernel
theorem dX11_within_26 : decode cX11_within 26 = .ok (.istore_n 3, 1) := by decide +kernel
theorem dX11_within_27 : decode cX11_within 27 = .ok (.iload_n 3, 1) := by decide +kernel
theorem dX11_within_28 : decode cX11_within 28 = .ok (.sipush 896, 3) := by decide +kernel
theorem dX11_within_31 : decode cX11_within 31 = .ok (.if_icmp .ge 18, 3) := by decide +kernel
theorem dX11_within_34 : decode cX11_within 34 = .ok (.aload_n 0, 1) := by decide +kernel
theorem dX11_within_35 : decode cX11_within 35 = .ok (.getfield 152, 3) := by decide +kernel
theorem dX11_within_38 : decode cX11_within 38 = .ok (.iload_n 3, 1) := by decide +kernel
theorem dX11_within_39 : decode cX11_within 39 = .ok (.ldc_w 457, 3) := by decide +kernel
theorem dX11_within_42 : decode cX11_within 42 = .ok (.iastore, 1) := by decide +kernel
theorem dX11_within_43 : decode cX11_within 43 = .ok (.iinc 3 1, 3) := by decide +kernel
theorem dX11_within_46 : decode cX11_within 46 = .ok (.goto (-19), 3) := by decide +kernel
theorem dX11_within_49 : decode cX11_within 49 = .ok (.aload_n 0, 1) := by decide +kernel
theorem dX11_within_50 : decode cX11_within 50 = .ok (.getfield 152, 3) := by decide +kernel
theorem dX11_within_53 : decode cX11_within 53 = .ok (.bipush 7, 2) := by decide +kernel
theorem dX11_within_55 : decode cX11_within 55 = .ok (.iconst 1, 1) := by decide +kernel
theorem dX11_within_56 : decode cX11_within 56 = .ok (.iload_n 1, 1) := by decide +kernel
theorem dX11_within_57 : decode cX11_within 57 = .ok (.ishl, 1) := by decide +kernel
theorem dX11_within_58 : decode cX11_within 58 = .ok (.imul, 1) := by decide +kernel
theorem dX11_within_59 : decode cX11_within 59 = .ok (.iload_n 1, 1) := by decide +kernel
theorem dX11_within_60 : decode cX11_within 60 = .ok (.iadd, 1) := by decide +kernel
theorem dX11_within_61 : decode cX11_within 61 = .ok (.aload_n 0, 1) := by decide +kernel
theorem dX11_within_62 : decode cX11_within 62 = .ok (.getfield 158, 3) := by decide +kernel
theorem dX11_within_65 : decode cX11_within 65 = .ok (.iload_n 1, 1) := by decide +kernel
theorem dX11_within_66 : decode cX11_within 66 = .ok (.iaload, 1) := by decide +kernel
theorem dX11_within_67 : decode cX11_within 67 = .ok (.iastore, 1) := by decide +kernel
theorem dX11_within_68 : decode cX11_within 68 = .ok (.iconst 0, 1) := by decide +kernel
theorem dX11_within_69 : decode cX11_within 69 = .ok (.istore_n 3, 1) := by decide +kernel
theorem dX11_within_70 : decode cX11_within 70 = .ok (.iconst 0, 1) := by decide +kernel
theorem dX11_within_71 : decode cX11_within 71 = .ok (.istore 4, 2) := by decide +kernel
theorem dX11_within_73 : decode cX11_within 73 = .ok (.iload 4, 2) := by decide +kernel
theorem dX11_within_75 : decode cX11_within 75 = .ok (.iconst 1, 1) := by decide +kernel
theorem dX11_within_76 : decode cX11_within 76 = .ok (.aload_n 0, 1) := by decide +kernel
theorem dX11_within_77 : decode cX11_within 77 = .ok (.getfield 49, 3) := by decide +kernel
theorem dX11_within_80 : decode cX11_within 80 = .ok (.aload_n 0, 1) := by decide +kernel
theorem dX11_within_81 : decode cX11_within 81 = .ok (.getfield 254, 3) := by decide +kernel
theorem dX11_within_84 : decode cX11_within 84 = .ok (.iaload, 1) := by decide +kernel
theorem dX11_within_85 : decode cX11_within 85 = .ok (.ishl, 1) := by decide +kernel
theorem dX11_within_86 : decode cX11_within 86 = .ok (.if_icmp .ge 170, 3) := by decide +kernel
theorem dX11_within_89 : decode cX11_within 89 = .ok (.iconst 0, 1) := by decide +kernel
theorem dX11_within_90 : decode cX11_within 90 = .ok (.istore 5, 2) := by decide +kernel
theorem dX11_within_92 : decode cX11_within 92 = .ok (.iload 5, 2) := by decide +kernel
theorem dX11_within_94 : decode cX11_within 94 = .ok (.aload_n 0, 1) := by decide +kernel
theorem dX11_within_95 : decode cX11_within 95 = .ok (.getfield 49, 3) := by decide +kernel
theorem dX11_within_98 : decode cX11_within 98 = .ok (.aload_n 0, 1) := by decide +kernel
theorem dX11_within_99 : decode cX11_within 99 = .ok (.getfield 254, 3) := by decide +kernel
theorem dX11_within_102 : decode cX11_within 102 = .ok (.iaload, 1) := by decide +kernel
theorem dX11_within_103 : decode cX11_within 103 = .ok (.if_icmp .ge 147, 3) := by decide +kernel
theorem dX11_within_106 : decode cX11_within 106 = .ok (.aload_n 0, 1) := by decide +kernel
theorem dX11_within_107 : decode cX11_within 107 = .ok (.getfield 152, 3) := by decide +kernel
theorem dX11_within_110 : decode cX11_within 110 = .ok (.bipush 7, 2) := by decide +kernel
theorem dX11_within_112 : decode cX11_within 112 = .ok (.iload 4, 2) := by decide +kernel
theorem dX11_within_114 : decode cX11_within 114 = .ok (.imul, 1) := by decide +kernel
theorem dX11_within_115 : decode cX11_within 115 = .ok (.iload 5, 2) := by decide +kernel
theorem dX11_within_117 : decode cX11_within 117 = .ok (.iadd, 1) := by decide +kernel
theorem dX11_within_118 : decode cX11_within 118 = .ok (.iaload, 1) := by decide +kernel
theorem dX11_within_119 : decode cX11_within 119 = .ok (.istore 6, 2) := by decide +kernel
theorem dX11_within_121 : decode cX11_within 121 = .ok (.iload 6, 2) := by decide +kernel
theorem dX11_within_123 : decode cX11_within 123 = .ok (.iload_n 2, 1) := by decide +kernel
theorem dX11_within_124 : decode cX11_within 124 = .ok (.if_icmp .le 6, 3) := by decide +kernel
theorem dX11_within_127 : decode cX11_within 127 = .ok (.goto 117, 3) := by decide +kernel
theorem dX11_within_130 : decode cX11_within 130 = .ok (.iload 4, 2) := by decide +kernel
theorem dX11_within_132 : decode cX11_within 132 = .ok (.invokestatic 366, 3) := by decide +kernel
theorem dX11_within_135 : decode cX11_within 135 = .ok (.iload_n 3, 1) := by decide +kernel
theorem dX11_within_136 : decode cX11_within 136 = .ok (.if_icmp .le 9, 3) := by decide +kernel
theorem dX11_within_139 : decode cX11_within 139 = .ok (.iload 4, 2) := by decide +kernel
theorem dX11_within_141 : decode cX11_within 141 = .ok (.invokestatic 366, 3) := by decide +kernel
theorem dX11_within_144 : decode cX11_within 144 = .ok (.istore_n 3, 1) := by decide +kernel
theorem dX11_within_145 : decode cX11_within 145 = .ok (.iconst 0, 1) := by decide +kernel
theorem dX11_within_146 : decode cX11_within 146 = .ok (.istore 7, 2) := by decide +kernel
theorem dX11_within_148 : decode cX11_within 148 = .ok (.iload 7, 2) := by decide +kernel
theorem dX11_within_150 : decode cX11_within 150 = .ok (.aload_n 0, 1) := by decide +kernel
theorem dX11_within_151 : decode cX11_within 151 = .ok (.getfield 49, 3) := by decide +kernel
theorem dX11_within_154 : decode cX11_within 154 = .ok (.aload_n 0, 1) := by decide +kernel
theorem dX11_within_155 : decode cX11_within 155 = .ok (.getfield 254, 3) := by decide +kernel
theorem dX11_within_158 : decode cX11_within 158 = .ok (.iaload, 1) := by decide +kernel
theorem dX11_within_159 : decode cX11_within 159 = .ok (.if_icmp .ge 85, 3) := by decide +kernel
theorem dX11_within_162 : decode cX11_within 162 = .ok (.iload 4, 2) := by decide +kernel
theorem dX11_within_164 : decode cX11_within 164 = .ok (.iload 7, 2) := by decide +kernel
theorem dX11_within_166 : decode cX11_within 166 = .ok (.ishr, 1) := by decide +kernel
theorem dX11_within_167 : decode cX11_within 167 = .ok (.iconst 1, 1) := by decide +kernel
theorem dX11_within_168 : decode cX11_within 168 = .ok (.iand, 1) := by decide +kernel
theorem dX11_within_169 : decode cX11_within 169 = .ok (.iconst 1, 1) := by decide +kernel
theorem dX11_within_170 : decode cX11_within 170 = .ok (.if_icmp .ne 6, 3) := by decide +kernel
theorem dX11_within_173 : decode cX11_within 173 = .ok (.goto 65, 3) := by decide +kernel
theorem dX11_within_176 : decode cX11_within 176 = .ok (.bipush 7, 2) := by decide +kernel
theorem dX11_within_178 : decode cX11_within 178 = .ok (.iload 4, 2) := by decide +kernel
theorem dX11_within_180 : decode cX11_within 180 = .ok (.iconst 1, 1) := by decide +kernel
theorem dX11_within_181 : decode cX11_within 181 = .ok (.iload 7, 2) := by decide +kernel
theorem dX11_within_183 : decode cX11_within 183 = .ok (.ishl, 1) := by decide +kernel
theorem dX11_within_184 : decode cX11_within 184 = .ok (.ior, 1) := by decide +kernel
theorem dX11_within_185 : decode cX11_within 185 = .ok (.imul, 1) := by decide +kernel
theorem dX11_within_186 : decode cX11_within 186 = .ok (.iload 7, 2) := by decide +kernel
theorem dX11_within_188 : decode cX11_within 188 = .ok (.iadd, 1) := by decide +kernel
theorem dX11_within_189 : decode cX11_within 189 = .ok (.istore 8, 2) := by decide +kernel
theorem dX11_within_191 : decode cX11_within 191 = .ok (.iload 6, 2) := by decide +kernel
theorem dX11_within_193 : decode cX11_within 193 = .ok (.aload_n 0, 1) := by decide +kernel
theorem dX11_within_194 : decode cX11_within 194 = .ok (.getfield 155, 3) := by decide +kernel
theorem dX11_within_197 : decode cX11_within 197 = .ok (.bipush 7, 2) := by decide +kernel
theorem dX11_within_199 : decode cX11_within 199 = .ok (.iload 5, 2) := by decide +kernel
theorem dX11_within_201 : decode cX11_within 201 = .ok (.imul, 1) := by decide +kernel
theorem dX11_within_202 : decode cX11_within 202 = .ok (.iload 7, 2) := by decide +kernel
theorem dX11_within_204 : decode cX11_within 204 = .ok (.iadd, 1) := by decide +kernel
theorem dX11_within_205 : decode cX11_within 205 = .ok (.iaload, 1) := by decide +kernel
theorem dX11_within_206 : decode cX11_within 206 = .ok (.iadd, 1) := by decide +kernel
theorem dX11_within_207 : decode cX11_within 207 = .ok (.aload_n 0, 1) := by decide +kernel
theorem dX11_within_208 : decode cX11_within 208 = .ok (.getfield 158, 3) := by decide +kernel
theorem dX11_within_211 : decode cX11_within 211 = .ok (.iload 7, 2) := by decide +kernel
theorem dX11_within_213 : decode cX11_within 213 = .ok (.iaload, 1) := by decide +kernel
theorem dX11_within_214 : decode cX11_within 214 = .ok (.iadd, 1) := by decide +kernel
theorem dX11_within_215 : decode cX11_within 215 = .ok (.istore 9, 2) := by decide +kernel
theorem dX11_within_217 : decode cX11_within 217 = .ok (.iload 9, 2) := by decide +kernel
theorem dX11_within_219 : decode cX11_within 219 = .ok (.aload_n 0, 1) := by decide +kernel
theorem dX11_within_220 : decode cX11_within 220 = .ok (.getfield 152, 3) := by decide +kernel
theorem dX11_within_223 : decode cX11_within 223 = .ok (.iload 8, 2) := by decide +kernel
theorem dX11_within_225 : decode cX11_within 225 = .ok (.iaload, 1) := by decide +kernel
theorem dX11_within_226 : decode cX11_within 226 = .ok (.if_icmp .ge 12, 3) := by decide +kernel
theorem dX11_within_229 : decode cX11_within 229 = .ok (.aload_n 0, 1) := by decide +kernel
theorem dX11_within_230 : decode cX11_within 230 = .ok (.getfield 152, 3) := by decide +kernel
theorem dX11_within_233 : decode cX11_within 233 = .ok (.iload 8, 2) := by decide +kernel
theorem dX11_within_235 : decode cX11_within 235 = .ok (.iload 9, 2) := by decide +kernel
theorem dX11_within_237 : decode cX11_within 237 = .ok (.iastore, 1) := by decide +kernel
theorem dX11_within_238 : decode cX11_within 238 = .ok (.iinc 7 1, 3) := by decide +kernel
theorem dX11_within_241 : decode cX11_within 241 = .ok (.goto (-93), 3) := by decide +kernel
theorem dX11_within_244 : decode cX11_within 244 = .ok (.iinc 5 1, 3) := by decide +kernel
theorem dX11_within_247 : decode cX11_within 247 = .ok (.goto (-155), 3) := by decide +kernel
theorem dX11_within_250 : decode cX11_within 250 = .ok (.iinc 4 1, 3) := by decide +kernel
theorem dX11_within_253 : decode cX11_within 253 = .ok (.goto (-180), 3) := by decide +kernel
theorem dX11_within_256 : decode cX11_within 256 = .ok (.iload_n 3, 1) := by decide +kernel
theorem dX11_within_257 : decode cX11_within 257 = .ok (.ireturn, 1) := by decide +kernel
theorem dX11_hasNow_0 : decode cX11_hasNow 0 = .ok (.iconst 0, 1) := by decide +kernel
theorem dX11_hasNow_1 : decode cX11_hasNow 1 = .ok (.istore_n 2, 1) := by decide +kernel
theorem dX11_hasNow_2 : decode cX11_hasNow 2 = .ok (.iconst 0, 1) := by decide +kernel
theorem dX11_hasNow_3 : decode cX11_hasNow 3 = .ok (.istore_n 3, 1) := by decide +kernel
theorem dX11_hasNow_4 : decode cX11_hasNow 4 = .ok (.iload_n 3, 1) := by decide +kernel
theorem dX11_hasNow_5 : decode cX11_hasNow 5 = .ok (.aload_n 0, 1) := by decide +kernel
theorem dX11_hasNow_6 : decode cX11_hasNow 6 = .ok (.getfield 49, 3) := by decide +kernel
theorem dX11_hasNow_9 : decode cX11_hasNow 9 = .ok (.aload_n 0, 1) := by decide +kernel
theorem dX11_hasNow_10 : decode cX11_hasNow 10 = .ok (.getfield 254, 3) := by decide +kernel
theorem dX11_hasNow_13 : decode cX11_hasNow 13 = .ok (.iaload, 1) := by decide +kernel
theorem dX11_hasNow_14 : decode cX11_hasNow 14 = .ok (.if_icmp .ge 22, 3) := by decide +kernel
theorem dX11_hasNow_17 : decode cX11_hasNow 17 = .ok (.aload_n 0, 1) := by decide +kernel
theorem dX11_hasNow_18 : decode cX11_hasNow 18 = .ok (.getfield 137, 3) := by decide +kernel
theorem dX11_hasNow_21 : decode cX11_hasNow 21 = .ok (.iload_n 3, 1) := by decide +kernel
theorem dX11_hasNow_22 : decode cX11_hasNow 22 = .ok (.iaload, 1) := by decide +kernel
theorem dX11_hasNow_23 : decode cX11_hasNow 23 = .ok (.iload_n 1, 1) := by decide +kernel
theorem dX11_hasNow_24 : decode cX11_hasNow 24 = .ok (.if_icmp .ne 6, 3) := by decide +kernel
theorem dX11_hasNow_27 : decode cX11_hasNow 27 = .ok (.iinc 2 1, 3) := by decide +kernel
theorem dX11_hasNow_30 : decode cX11_hasNow 30 = .ok (.iinc 3 1, 3) := by decide +kernel
theorem dX11_hasNow_33 : decode cX11_hasNow 33 = .ok (.goto (-29), 3) := by decide +kernel
theorem dX11_hasNow_36 : decode cX11_hasNow 36 = .ok (.iload_n 2, 1) := by decide +kernel
theorem dX11_hasNow_37 : decode cX11_hasNow 37 = .ok (.ireturn, 1) := by decide +kernel
theorem dX11_goesOnTo_0 : decode cX11_goesOnTo 0 = .ok (.aload_n 0, 1) := by decide +kernel
theorem dX11_goesOnTo_1 : decode cX11_goesOnTo 1 = .ok (.invokevirtual 400, 3) := by decide +kernel
theorem dX11_goesOnTo_4 : decode cX11_goesOnTo 4 = .ok (.aload_n 0, 1) := by decide +kernel
theorem dX11_goesOnTo_5 : decode cX11_goesOnTo 5 = .ok (.iload_n 1, 1) := by decide +kernel
theorem dX11_goesOnTo_6 : decode cX11_goesOnTo 6 = .ok (.invokevirtual 424, 3) := by decide +kernel
theorem dX11_goesOnTo_9 : decode cX11_goesOnTo 9 = .ok (.aload_n 0, 1) := by decide +kernel
theorem dX11_goesOnTo_10 : decode cX11_goesOnTo 10 = .ok (.invokevirtual 403, 3) := by decide +kernel
theorem dX11_goesOnTo_13 : decode cX11_goesOnTo 13 = .ok (.return_, 1) := by decide +kernel
theorem dX11_has_0 : decode cX11_has 0 = .ok (.aload_n 0, 1) := by decide +kernel
theorem dX11_has_1 : decode cX11_has 1 = .ok (.iload_n 1, 1) := by decide +kernel
theorem dX11_has_2 : decode cX11_has 2 = .ok (.invokevirtual 415, 3) := by decide +kernel
theorem dX11_has_5 : decode cX11_has 5 = .ok (.ifCond .eq 10, 3) := by decide +kernel
theorem dX11_has_8 : decode cX11_has 8 = .ok (.iload_n 2, 1) := by decide +kernel
theorem dX11_has_9 : decode cX11_has 9 = .ok (.invokestatic 439, 3) := by decide +kernel
theorem dX11_has_12 : decode cX11_has 12 = .ok (.ifCond .ne 5, 3) := by decide +kernel
theorem dX11_has_15 : decode cX11_has 15 = .ok (.iconst (-1), 1) := by decide +kernel
theorem dX11_has_16 : decode cX11_has 16 = .ok (.ireturn, 1) := by decide +kernel
theorem dX11_has_17 : decode cX11_has 17 = .ok (.aload_n 0, 1) := by decide +kernel
theorem dX11_has_18 : decode cX11_has 18 = .ok (.iload_n 2, 1) := by decide +kernel
theorem dX11_has_19 : decode cX11_has 19 = .ok (.invokevirtual 464, 3) := by decide +kernel
theorem dX11_has_22 : decode cX11_has 22 = .ok (.aload_n 0, 1) := by decide +kernel
theorem dX11_has_23 : decode cX11_has 23 = .ok (.iload_n 1, 1) := by decide +kernel
theorem dX11_has_24 : decode cX11_has 24 = .ok (.invokevirtual 467, 3) := by decide +kernel
theorem dX11_has_27 : decode cX11_has 27 = .ok (.ireturn, 1) := by decide +kernel
theorem dX11_rich_0 : decode cX11_rich 0 = .ok (.iload_n 1, 1) := by decide +kernel
theorem dX11_rich_1 : decode cX11_rich 1 = .ok (.invokestatic 439, 3) := by decide +kernel
theorem dX11_rich_4 : decode cX11_rich 4 = .ok (.ifCond .eq 12, 3) := by decide +kernel
theorem dX11_rich_7 : decode cX11_rich 7 = .ok (.iload_n 2, 1) := by decide +kernel
theorem dX11_rich_8 : decode cX11_rich 8 = .ok (.iconst 0, 1) := by decide +kernel
theorem dX11_rich_9 : decode cX11_rich 9 = .ok (.iconst 1, 1) := by decide +kernel
theorem dX11_rich_10 : decode cX11_rich 10 = .ok (.invokestatic 340, 3) := by decide +kernel
theorem dX11_rich_13 : decode cX11_rich 13 = .ok (.ifCond .ne 5, 3) := by decide +kernel
theorem dX11_rich_16 : decode cX11_rich 16 = .ok (.iconst (-1), 1) := by decide +kernel
theorem dX11_rich_17 : decode cX11_rich 17 = .ok (.ireturn, 1) := by decide +kernel
theorem dX11_rich_18 : decode cX11_rich 18 = .ok (.aload_n 0, 1) := by decide +kernel
theorem dX11_rich_19 : decode cX11_rich 19 = .ok (.iload_n 1, 1) := by decide +kernel
theorem dX11_rich_20 : decode cX11_rich 20 = .ok (.invokevirtual 464, 3) := by decide +kernel
theorem dX11_rich_23 : decode cX11_rich 23 = .ok (.bipush (-2), 2) := by decide +kernel
theorem dX11_rich_25 : decode cX11_rich 25 = .ok (.istore_n 3, 1) := by decide +kernel
theorem dX11_rich_26 : decode cX11_rich 26 = .ok (.iconst 0, 1) := by decide +kernel
theorem dX11_rich_27 : decode cX11_rich 27 = .ok (.istore 4, 2) := by decide +kernel
theorem dX11_rich_29 : decode cX11_rich 29 = .ok (.iload 4, 2) := by decide +kernel
theorem dX11_rich_31 : decode cX11_rich 31 = .ok (.aload_n 0, 1) := by decide +kernel
theorem dX11_rich_32 : decode cX11_rich 32 = .ok (.getfield 46, 3) := by decide +kernel
theorem dX11_rich_35 : decode cX11_rich 35 = .ok (.aload_n 0, 1) := by decide +kernel
theorem dX11_rich_36 : decode cX11_rich 36 = .ok (.getfield 254, 3) := by decide +kernel
theorem dX11_rich_39 : decode cX11_rich 39 = .ok (.iaload, 1) := by decide +kernel
theorem dX11_rich_40 : decode cX11_rich 40 = .ok (.if_icmp .ge 30, 3) := by decide +kernel
theorem dX11_rich_43 : decode cX11_rich 43 = .ok (.iload_n 3, 1) := by decide +kernel
theorem dX11_rich_44 : decode cX11_rich 44 = .ok (.ifCond .lt 17, 3) := by decide +kernel
theorem dX11_rich_47 : decode cX11_rich 47 = .ok (.aload_n 0, 1) := by decide +kernel
theorem dX11_rich_48 : decode cX11_rich 48 = .ok (.iload 4, 2) := by decide +kernel
theorem dX11_rich_50 : decode cX11_rich 50 = .ok (.invokevirtual 467, 3) := by decide +kernel
theorem dX11_rich_53 : decode cX11_rich 53 = .ok (.aload_n 0, 1) := by decide +kernel
theorem dX11_rich_54 : decode cX11_rich 54 = .ok (.iload_n 3, 1) := by decide +kernel
theorem dX11_rich_55 : decode cX11_rich 55 = .ok (.invokevirtual 467, 3) := by decide +kernel
theorem dX11_rich_58 : decode cX11_rich 58 = .ok (.if_icmp .le 6, 3) := by decide +kernel
theorem dX11_rich_61 : decode cX11_rich 61 = .ok (.iload 4, 2) := by decide +kernel
theorem dX11_rich_63 : decode cX11_rich 63 = .ok (.istore_n 3, 1) := by decide +kernel
theorem dX11_rich_64 : decode cX11_rich 64 = .ok (.iinc 4 1, 3) := by decide +kernel
theorem dX11_rich_67 : decode cX11_rich 67 = .ok (.goto (-38), 3) := by decide +kernel
theorem dX11_rich_70 : decode cX11_rich 70 = .ok (.iload_n 3, 1) := by decide +kernel
theorem dX11_rich_71 : decode cX11_rich 71 = .ok (.ifCond .lt 7, 3) := by decide +kernel
theorem dX11_rich_74 : decode cX11_rich 74 = .ok (.iload_n 2, 1) := by decide +kernel
theorem dX11_rich_75 : decode cX11_rich 75 = .ok (.ifCond .ne 7, 3) := by decide +kernel
theorem dX11_rich_78 : decode cX11_rich 78 = .ok (.iload_n 3, 1) := by decide +kernel
theorem dX11_rich_79 : decode cX11_rich 79 = .ok (.goto 8, 3) := by decide +kernel
theorem dX11_rich_82 : decode cX11_rich 82 = .ok (.aload_n 0, 1) := by decide +kernel
theorem dX11_rich_83 : decode cX11_rich 83 = .ok (.iload_n 3, 1) := by decide +kernel
theorem dX11_rich_84 : decode cX11_rich 84 = .ok (.invokevirtual 467, 3) := by decide +kernel
theorem dX11_rich_87 : decode cX11_rich 87 = .ok (.ireturn, 1) := by decide +kernel
theorem dX11_chain_0 : decode cX11_chain 0 = .ok (.aload_n 0, 1) := by decide +kernel
theorem dX11_chain_1 : decode cX11_chain 1 = .ok (.iload_n 1, 1) := by decide +kernel
theorem dX11_chain_2 : decode cX11_chain 2 = .ok (.invokevirtual 397, 3) := by decide +kernel
theorem dX11_chain_5 : decode cX11_chain 5 = .ok (.ifCond .eq 8, 3) := by decide +kernel
theorem dX11_chain_8 : decode cX11_chain 8 = .ok (.iload_n 2, 1) := by decide +kernel
theorem dX11_chain_9 : decode cX11_chain 9 = .ok (.iconst (-1), 1) := by decide +kernel
theorem dX11_chain_10 : decode cX11_chain 10 = .ok (.if_icmp .ge 5, 3) := by decide +kernel
theorem dX11_chain_13 : decode cX11_chain 13 = .ok (.iconst (-1), 1) := by decide +kernel
theorem dX11_chain_14 : decode cX11_chain 14 = .ok (.ireturn, 1) := by decide +kernel
theorem dX11_chain_15 : decode cX11_chain 15 = .ok (.aload_n 0, 1) := by decide +kernel
theorem dX11_chain_16 : decode cX11_chain 16 = .ok (.iconst 0, 1) := by decide +kernel
theorem dX11_chain_17 : decode cX11_chain 17 = .ok (.invokevirtual 464, 3) := by decide +kernel
theorem dX11_chain_20 : decode cX11_chain 20 = .ok (.iload_n 2, 1) := by decide +kernel
theorem dX11_chain_21 : decode cX11_chain 21 = .ok (.iconst (-1), 1) := by decide +kernel
theorem dX11_chain_22 : decode cX11_chain 22 = .ok (.if_icmp .ne 11, 3) := by decide +kernel
theorem dX11_chain_25 : decode cX11_chain 25 = .ok (.iconst 1, 1) := by decide +kernel
theorem dX11_chain_26 : decode cX11_chain 26 = .ok (.aload_n 0, 1) := by decide +kernel
theorem dX11_chain_27 : decode cX11_chain 27 = .ok (.iload_n 1, 1) := by decide +kernel
theorem dX11_chain_28 : decode cX11_chain 28 = .ok (.invokevirtual 406, 3) := by decide +kernel
theorem dX11_chain_31 : decode cX11_chain 31 = .ok (.iadd, 1) := by decide +kernel
theorem dX11_chain_32 : decode cX11_chain 32 = .ok (.ireturn, 1) := by decide +kernel
theorem dX11_chain_33 : decode cX11_chain 33 = .ok (.iload_n 2, 1) := by decide +kernel
theorem dX11_chain_34 : decode cX11_chain 34 = .ok (.ifCond .ne 18, 3) := by decide +kernel
theorem dX11_chain_37 : decode cX11_chain 37 = .ok (.aload_n 0, 1) := by decide +kernel
theorem dX11_chain_38 : decode cX11_chain 38 = .ok (.getfield 58, 3) := by decide +kernel
theorem dX11_chain_41 : decode cX11_chain 41 = .ok (.bipush 7, 2) := by decide +kernel
theorem dX11_chain_43 : decode cX11_chain 43 = .ok (.aload_n 0, 1) := by decide +kernel
theorem dX11_chain_44 : decode cX11_chain 44 = .ok (.getfield 254, 3) := by decide +kernel
theorem dX11_chain_47 : decode cX11_chain 47 = .ok (.imul, 1) := by decide +kernel
theorem dX11_chain_48 : decode cX11_chain 48 = .ok (.iload_n 1, 1) := by decide +kernel
theorem dX11_chain_49 : decode cX11_chain 49 = .ok (.iadd, 1) := by decide +kernel
theorem dX11_chain_50 : decode cX11_chain 50 = .ok (.iaload, 1) := by decide +kernel
theorem dX11_chain_51 : decode cX11_chain 51 = .ok (.ireturn, 1) := by decide +kernel
theorem dX11_chain_52 : decode cX11_chain 52 = .ok (.iconst 0, 1) := by decide +kernel
theorem dX11_chain_53 : decode cX11_chain 53 = .ok (.istore_n 3, 1) := by decide +kernel
theorem dX11_chain_54 : decode cX11_chain 54 = .ok (.iconst 0, 1) := by decide +kernel
theorem dX11_chain_55 : decode cX11_chain 55 = .ok (.istore 4, 2) := by decide +kernel
theorem dX11_chain_57 : decode cX11_chain 57 = .ok (.iload 4, 2) := by decide +kernel
theorem dX11_chain_59 : decode cX11_chain 59 = .ok (.aload_n 0, 1) := by decide +kernel
theorem dX11_chain_60 : decode cX11_chain 60 = .ok (.getfield 134, 3) := by decide +kernel
theorem dX11_chain_63 : decode cX11_chain 63 = .ok (.bipush 15, 2) := by decide +kernel
theorem dX11_chain_65 : decode cX11_chain 65 = .ok (.iaload, 1) := by decide +kernel
theorem dX11_chain_66 : decode cX11_chain 66 = .ok (.if_icmp .ge 55, 3) := by decide +kernel
theorem dX11_chain_69 : decode cX11_chain 69 = .ok (.aload_n 0, 1) := by decide +kernel
theorem dX11_chain_70 : decode cX11_chain 70 = .ok (.getfield 134, 3) := by decide +kernel
theorem dX11_chain_73 : decode cX11_chain 73 = .ok (.bipush 17, 2) := by decide +kernel
theorem dX11_chain_75 : decode cX11_chain 75 = .ok (.iload 4, 2) := by decide +kernel
theorem dX11_chain_77 : decode cX11_chain 77 = .ok (.iadd, 1) := by decide +kernel
theorem dX11_chain_78 : decode cX11_chain 78 = .ok (.iaload, 1) := by decide +kernel
theorem dX11_chain_79 : decode cX11_chain 79 = .ok (.iload_n 1, 1) := by decide +kernel
theorem dX11_chain_80 : decode cX11_chain 80 = .ok (.if_icmp .ne 35, 3) := by decide +kernel
theorem dX11_chain_83 : decode cX11_chain 83 = .ok (.aload_n 0, 1) := by decide +kernel
theorem dX11_chain_84 : decode cX11_chain 84 = .ok (.getfield 143, 3) := by decide +kernel
theorem dX11_chain_87 : decode cX11_chain 87 = .ok (.iload 4, 2) := by decide +kernel
theorem dX11_chain_89 : decode cX11_chain 89 = .ok (.baload, 1) := by decide +kernel
theorem dX11_chain_90 : decode cX11_chain 90 = .ok (.ifCond .ne 6, 3) := by decide +kernel
theorem dX11_chain_93 : decode cX11_chain 93 = .ok (.goto 22, 3) := by decide +kernel
theorem dX11_chain_96 : decode cX11_chain 96 = .ok (.iinc 3 1, 3) := by decide +kernel
theorem dX11_chain_99 : decode cX11_chain 99 = .ok (.iload_n 3, 1) := by decide +kernel
theorem dX11_chain_100 : decode cX11_chain 100 = .ok (.iload_n 2, 1) := by decide +kernel
theorem dX11_chain_101 : decode cX11_chain 101 = .ok (.if_icmp .ne 14, 3) := by decide +kernel
theorem dX11_chain_104 : decode cX11_chain 104 = .ok (.aload_n 0, 1) := by decide +kernel
theorem dX11_chain_105 : decode cX11_chain 105 = .ok (.getfield 134, 3) := by decide +kernel
theorem dX11_chain_108 : decode cX11_chain 108 = .ok (.bipush 57, 2) := by decide +kernel
theorem dX11_chain_110 : decode cX11_chain 110 = .ok (.iload 4, 2) := by decide +kernel
theorem dX11_chain_112 : decode cX11_chain 112 = .ok (.iadd, 1) := by decide +kernel
theorem dX11_chain_113 : decode cX11_chain 113 = .ok (.iaload, 1) := by decide +kernel
theorem dX11_chain_114 : decode cX11_chain 114 = .ok (.ireturn, 1) := by decide +kernel
theorem dX11_chain_115 : decode cX11_chain 115 = .ok (.iinc 4 1, 3) := by decide +kernel
theorem dX11_chain_118 : decode cX11_chain 118 = .ok (.goto (-61), 3) := by decide +kernel
theorem dX11_chain_121 : decode cX11_chain 121 = .ok (.iconst (-1), 1) := by decide +kernel
theorem dX11_chain_122 : decode cX11_chain 122 = .ok (.ireturn, 1) := by decide +kernel
theorem dX11_idle_0 : decode cX11_idle 0 = .ok (.aload_n 0, 1) := by decide +kernel
theorem dX11_idle_1 : decode cX11_idle 1 = .ok (.iload_n 1, 1) := by decide +kernel
theorem dX11_idle_2 : decode cX11_idle 2 = .ok (.invokevirtual 397, 3) := by decide +kernel
theorem dX11_idle_5 : decode cX11_idle 5 = .ok (.ifCond .ne 5, 3) := by decide +kernel
theorem dX11_idle_8 : decode cX11_idle 8 = .ok (.iconst (-1), 1) := by decide +kernel
theorem dX11_idle_9 : decode cX11_idle 9 = .ok (.ireturn, 1) := by decide +kernel
theorem dX11_idle_10 : decode cX11_idle 10 = .ok (.aload_n 0, 1) := by decide +kernel
theorem dX11_idle_11 : decode cX11_idle 11 = .ok (.iconst 0, 1) := by decide +kernel
theorem dX11_idle_12 : decode cX11_idle 12 = .ok (.invokevirtual 464, 3) := by decide +kernel
theorem dX11_idle_15 : decode cX11_idle 15 = .ok (.iconst 0, 1) := by decide +kernel
theorem dX11_idle_16 : decode cX11_idle 16 = .ok (.istore_n 2, 1) := by decide +kernel
theorem dX11_idle_17 : decode cX11_idle 17 = .ok (.iconst 0, 1) := by decide +kernel
theorem dX11_idle_18 : decode cX11_idle 18 = .ok (.istore_n 3, 1) := by decide +kernel
theorem dX11_idle_19 : decode cX11_idle 19 = .ok (.iload_n 3, 1) := by decide +kernel
theorem dX11_idle_20 : decode cX11_idle 20 = .ok (.aload_n 0, 1) := by decide +kernel
theorem dX11_idle_21 : decode cX11_idle 21 = .ok (.getfield 134, 3) := by decide +kernel
theorem dX11_idle_24 : decode cX11_idle 24 = .ok (.bipush 15, 2) := by decide +kernel
theorem dX11_idle_26 : decode cX11_idle 26 = .ok (.iaload, 1) := by decide +kernel
theorem dX11_idle_27 : decode cX11_idle 27 = .ok (.if_icmp .ge 46, 3) := by decide +kernel
theorem dX11_idle_30 : decode cX11_idle 30 = .ok (.aload_n 0, 1) := by decide +kernel
theorem dX11_idle_31 : decode cX11_idle 31 = .ok (.getfield 134, 3) := by decide +kernel
theorem dX11_idle_34 : decode cX11_idle 34 = .ok (.bipush 17, 2) := by decide +kernel
theorem dX11_idle_36 : decode cX11_idle 36 = .ok (.iload_n 3, 1) := by decide +kernel
theorem dX11_idle_37 : decode cX11_idle 37 = .ok (.iadd, 1) := by decide +kernel
theorem dX11_idle_38 : decode cX11_idle 38 = .ok (.iaload, 1) := by decide +kernel
theorem dX11_idle_39 : decode cX11_idle 39 = .ok (.iload_n 1, 1) := by decide +kernel
theorem dX11_idle_40 : decode cX11_idle 40 = .ok (.if_icmp .ne 27, 3) := by decide +kernel
theorem dX11_idle_43 : decode cX11_idle 43 = .ok (.aload_n 0, 1) := by decide +kernel
theorem dX11_idle_44 : decode cX11_idle 44 = .ok (.getfield 140, 3) := by decide +kernel
theorem dX11_idle_47 : decode cX11_idle 47 = .ok (.iload_n 3, 1) := by decide +kernel
theorem dX11_idle_48 : decode cX11_idle 48 = .ok (.baload, 1) := by decide +kernel
theorem dX11_idle_49 : decode cX11_idle 49 = .ok (.ifCond .eq 18, 3) := by decide +kernel
theorem dX11_idle_52 : decode cX11_idle 52 = .ok (.aload_n 0, 1) := by decide +kernel
theorem dX11_idle_53 : decode cX11_idle 53 = .ok (.getfield 143, 3) := by decide +kernel
theorem dX11_idle_56 : decode cX11_idle 56 = .ok (.iload_n 3, 1) := by decide +kernel
theorem dX11_idle_57 : decode cX11_idle 57 = .ok (.baload, 1) := by decide +kernel
theorem dX11_idle_58 : decode cX11_idle 58 = .ok (.ifCond .ne 9, 3) := by decide +kernel
theorem dX11_idle_61 : decode cX11_idle 61 = .ok (.iload_n 2, 1) := by decide +kernel
theorem dX11_idle_62 : decode cX11_idle 62 = .ok (.iconst 1, 1) := by decide +kernel
theorem dX11_idle_63 : decode cX11_idle 63 = .ok (.iload_n 3, 1) := by decide +kernel
theorem dX11_idle_64 : decode cX11_idle 64 = .ok (.ishl, 1) := by decide +kernel
theorem dX11_idle_65 : decode cX11_idle 65 = .ok (.ior, 1) := by decide +kernel
theorem dX11_idle_66 : decode cX11_idle 66 = .ok (.istore_n 2, 1) := by decide +kernel
theorem dX11_idle_67 : decode cX11_idle 67 = .ok (.iinc 3 1, 3) := by decide +kernel
theorem dX11_idle_70 : decode cX11_idle 70 = .ok (.goto (-51), 3) := by decide +kernel
theorem dX11_idle_73 : decode cX11_idle 73 = .ok (.iload_n 2, 1) := by decide +kernel
theorem dX11_idle_74 : decode cX11_idle 74 = .ok (.ireturn, 1) := by decide +kernel
theorem dX11_eldest_0 : decode cX11_eldest 0 = .ok (.iload_n 1, 1) := by decide +kernel
theorem dX11_eldest_1 : decode cX11_eldest 1 = .ok (.iconst 0, 1) := by decide +kernel
theorem dX11_eldest_2 : decode cX11_eldest 2 = .ok (.iconst 1, 1) := by decide +kernel
theorem dX11_eldest_3 : decode cX11_eldest 3 = .ok (.invokestatic 340, 3) := by decide +kernel
theorem dX11_eldest_6 : decode cX11_eldest 6 = .ok (.ifCond .ne 5, 3) := by decide +kernel
theorem dX11_eldest_9 : decode cX11_eldest 9 = .ok (.iconst (-1), 1) := by decide +kernel
theorem dX11_eldest_10 : decode cX11_eldest 10 = .ok (.ireturn, 1) := by decide +kernel
theorem dX11_eldest_11 : decode cX11_eldest 11 = .ok (.bipush (-2), 2) := by decide +kernel
theorem dX11_eldest_13 : decode cX11_eldest 13 = .ok (.istore_n 2, 1) := by decide +kernel
theorem dX11_eldest_14 : decode cX11_eldest 14 = .ok (.bipush (-2), 2) := by decide +kernel
theorem dX11_eldest_16 : decode cX11_eldest 16 = .ok (.istore_n 3, 1) := by decide +kernel
theorem dX11_eldest_17 : decode cX11_eldest 17 = .ok (.iconst 0, 1) := by decide +kernel
theorem dX11_eldest_18 : decode cX11_eldest 18 = .ok (.istore 4, 2) := by decide +kernel
theorem dX11_eldest_20 : decode cX11_eldest 20 = .ok (.iload 4, 2) := by decide +kernel
theorem dX11_eldest_22 : decode cX11_eldest 22 = .ok (.aload_n 0, 1) := by decide +kernel
theorem dX11_eldest_23 : decode cX11_eldest 23 = .ok (.getfield 61, 3) := by decide +kernel
theorem dX11_eldest_26 : decode cX11_eldest 26 = .ok (.aload_n 0, 1) := by decide +kernel
theorem dX11_eldest_27 : decode cX11_eldest 27 = .ok (.getfield 254, 3) := by decide +kernel
theorem dX11_eldest_30 : decode cX11_eldest 30 = .ok (.iaload, 1) := by decide +kernel
theorem dX11_eldest_31 : decode cX11_eldest 31 = .ok (.if_icmp .ge 47, 3) := by decide +kernel
theorem dX11_eldest_34 : decode cX11_eldest 34 = .ok (.aload_n 0, 1) := by decide +kernel
theorem dX11_eldest_35 : decode cX11_eldest 35 = .ok (.getfield 131, 3) := by decide +kernel
theorem dX11_eldest_38 : decode cX11_eldest 38 = .ok (.bipush 7, 2) := by decide +kernel
theorem dX11_eldest_40 : decode cX11_eldest 40 = .ok (.iload 4, 2) := by decide +kernel
theorem dX11_eldest_42 : decode cX11_eldest 42 = .ok (.iadd, 1) := by decide +kernel
theorem dX11_eldest_43 : decode cX11_eldest 43 = .ok (.iaload, 1) := by decide +kernel
theorem dX11_eldest_44 : decode cX11_eldest 44 = .ok (.ifCond .eq 28, 3) := by decide +kernel
theorem dX11_eldest_47 : decode cX11_eldest 47 = .ok (.aload_n 0, 1) := by decide +kernel
theorem dX11_eldest_48 : decode cX11_eldest 48 = .ok (.getfield 131, 3) := by decide +kernel
theorem dX11_eldest_51 : decode cX11_eldest 51 = .ok (.iload 4, 2) := by decide +kernel
theorem dX11_eldest_53 : decode cX11_eldest 53 = .ok (.iaload, 1) := by decide +kernel
theorem dX11_eldest_54 : decode cX11_eldest 54 = .ok (.iload_n 3, 1) := by decide +kernel
theorem dX11_eldest_55 : decode cX11_eldest 55 = .ok (.if_icmp .gt 6, 3) := by decide +kernel
theorem dX11_eldest_58 : decode cX11_eldest 58 = .ok (.goto 14, 3) := by decide +kernel
theorem dX11_eldest_61 : decode cX11_eldest 61 = .ok (.iload 4, 2) := by decide +kernel
theorem dX11_eldest_63 : decode cX11_eldest 63 = .ok (.istore_n 2, 1) := by decide +kernel
theorem dX11_eldest_64 : decode cX11_eldest 64 = .ok (.aload_n 0, 1) := by decide +kernel
theorem dX11_eldest_65 : decode cX11_eldest 65 = .ok (.getfield 131, 3) := by decide +kernel
theorem dX11_eldest_68 : decode cX11_eldest 68 = .ok (.iload 4, 2) := by decide +kernel
theorem dX11_eldest_70 : decode cX11_eldest 70 = .ok (.iaload, 1) := by decide +kernel
theorem dX11_eldest_71 : decode cX11_eldest 71 = .ok (.istore_n 3, 1) := by decide +kernel
theorem dX11_eldest_72 : decode cX11_eldest 72 = .ok (.iinc 4 1, 3) := by decide +kernel
theorem dX11_eldest_75 : decode cX11_eldest 75 = .ok (.goto (-55), 3) := by decide +kernel
theorem dX11_eldest_78 : decode cX11_eldest 78 = .ok (.iload_n 1, 1) := by decide +kernel
theorem dX11_eldest_79 : decode cX11_eldest 79 = .ok (.ifCond .ne 7, 3) := by decide +kernel
theorem dX11_eldest_82 : decode cX11_eldest 82 = .ok (.iload_n 2, 1) := by decide +kernel
theorem dX11_eldest_83 : decode cX11_eldest 83 = .ok (.goto 4, 3) := by decide +kernel
theorem dX11_eldest_86 : decode cX11_eldest 86 = .ok (.iload_n 3, 1) := by decide +kernel
theorem dX11_eldest_87 : decode cX11_eldest 87 = .ok (.ireturn, 1) := by decide +kernel
theorem dX11_standBits_0 : decode cX11_standBits 0 = .ok (.iconst 0, 1) := by decide +kernel
theorem dX11_standBits_1 : decode cX11_standBits 1 = .ok (.istore_n 1, 1) := by decide +kernel
theorem dX11_standBits_2 : decode cX11_standBits 2 = .ok (.iconst 0, 1) := by decide +kernel
theorem dX11_standBits_3 : decode cX11_standBits 3 = .ok (.istore_n 2, 1) := by decide +kernel
theorem dX11_standBits_4 : decode cX11_standBits 4 = .ok (.iload_n 2, 1) := by decide +kernel
theorem dX11_standBits_5 : decode cX11_standBits 5 = .ok (.aload_n 0, 1) := by decide +kernel
theorem dX11_standBits_6 : decode cX11_standBits 6 = .ok (.getfield 134, 3) := by decide +kernel
theorem dX11_standBits_9 : decode cX11_standBits 9 = .ok (.bipush 15, 2) := by decide +kernel
theorem dX11_standBits_11 : decode cX11_standBits 11 = .ok (.iaload, 1) := by decide +kernel
theorem dX11_standBits_12 : decode cX11_standBits 12 = .ok (.if_icmp .ge 23, 3) := by decide +kernel
theorem dX11_standBits_15 : decode cX11_standBits 15 = .ok (.aload_n 0, 1) := by decide +kernel
theorem dX11_standBits_16 : decode cX11_standBits 16 = .ok (.iload_n 2, 1) := by decide +kernel
theorem dX11_standBits_17 : decode cX11_standBits 17 = .ok (.invokevirtual 385, 3) := by decide +kernel
theorem dX11_standBits_20 : decode cX11_standBits 20 = .ok (.ifCond .eq 9, 3) := by decide +kernel
theorem dX11_standBits_23 : decode cX11_standBits 23 = .ok (.iload_n 1, 1) := by decide +kernel
theorem dX11_standBits_24 : decode cX11_standBits 24 = .ok (.iconst 1, 1) := by decide +kernel
theorem dX11_standBits_25 : decode cX11_standBits 25 = .ok (.iload_n 2, 1) := by decide +kernel
theorem dX11_standBits_26 : decode cX11_standBits 26 = .ok (.ishl, 1) := by decide +kernel
theorem dX11_standBits_27 : decode cX11_standBits 27 = .ok (.ior, 1) := by decide +kernel
theorem dX11_standBits_28 : decode cX11_standBits 28 = .ok (.istore_n 1, 1) := by decide +kernel
theorem dX11_standBits_29 : decode cX11_standBits 29 = .ok (.iinc 2 1, 3) := by decide +kernel
theorem dX11_standBits_32 : decode cX11_standBits 32 = .ok (.goto (-28), 3) := by decide +kernel
theorem dX11_standBits_35 : decode cX11_standBits 35 = .ok (.iload_n 1, 1) := by decide +kernel
theorem dX11_standBits_36 : decode cX11_standBits 36 = .ok (.ireturn, 1) := by decide +kernel
theorem dX11_lapse_0 : decode cX11_lapse 0 = .ok (.iload_n 1, 1) := by decide +kernel
theorem dX11_lapse_1 : decode cX11_lapse 1 = .ok (.invokestatic 439, 3) := by decide +kernel
theorem dX11_lapse_4 : decode cX11_lapse 4 = .ok (.ifCond .ne 5, 3) := by decide +kernel
theorem dX11_lapse_7 : decode cX11_lapse 7 = .ok (.iconst (-1), 1) := by decide +kernel
theorem dX11_lapse_8 : decode cX11_lapse 8 = .ok (.ireturn, 1) := by decide +kernel
theorem dX11_lapse_9 : decode cX11_lapse 9 = .ok (.aload_n 0, 1) := by decide +kernel
theorem dX11_lapse_10 : decode cX11_lapse 10 = .ok (.invokevirtual 400, 3) := by decide +kernel
theorem dX11_lapse_13 : decode cX11_lapse 13 = .ok (.aload_n 0, 1) := by decide +kernel
theorem dX11_lapse_14 : decode cX11_lapse 14 = .ok (.invokevirtual 470, 3) := by decide +kernel
theorem dX11_lapse_17 : decode cX11_lapse 17 = .ok (.istore_n 2, 1) := by decide +kernel
theorem dX11_lapse_18 : decode cX11_lapse 18 = .ok (.aload_n 0, 1) := by decide +kernel
theorem dX11_lapse_19 : decode cX11_lapse 19 = .ok (.iload_n 1, 1) := by decide +kernel
theorem dX11_lapse_20 : decode cX11_lapse 20 = .ok (.invokevirtual 424, 3) := by decide +kernel
theorem dX11_lapse_23 : decode cX11_lapse 23 = .ok (.iload_n 2, 1) := by decide +kernel
theorem dX11_lapse_24 : decode cX11_lapse 24 = .ok (.aload_n 0, 1) := by decide +kernel
theorem dX11_lapse_25 : decode cX11_lapse 25 = .ok (.invokevirtual 470, 3) := by decide +kernel
theorem dX11_lapse_28 : decode cX11_lapse 28 = .ok (.iconst (-1), 1) := by decide +kernel
theorem dX11_lapse_29 : decode cX11_lapse 29 = .ok (.ixor, 1) := by decide +kernel
theorem dX11_lapse_30 : decode cX11_lapse 30 = .ok (.iand, 1) := by decide +kernel
theorem dX11_lapse_31 : decode cX11_lapse 31 = .ok (.invokestatic 366, 3) := by decide +kernel
theorem dX11_lapse_34 : decode cX11_lapse 34 = .ok (.ireturn, 1) := by decide +kernel
theorem dX11_passes_0 : decode cX11_passes 0 = .ok (.aload_n 0, 1) := by decide +kernel
theorem dX11_passes_1 : decode cX11_passes 1 = .ok (.iload_n 1, 1) := by decide +kernel
theorem dX11_passes_2 : decode cX11_passes 2 = .ok (.invokevirtual 397, 3) := by decide +kernel
theorem dX11_passes_5 : decode cX11_passes 5 = .ok (.ifCond .ne 5, 3) := by decide +kernel
theorem dX11_passes_8 : decode cX11_passes 8 = .ok (.iconst (-1), 1) := by decide +kernel
theorem dX11_passes_9 : decode cX11_passes 9 = .ok (.ireturn, 1) := by decide +kernel
theorem dX11_passes_10 : decode cX11_passes 10 = .ok (.aload_n 0, 1) := by decide +kernel
theorem dX11_passes_11 : decode cX11_passes 11 = .ok (.invokevirtual 427, 3) := by decide +kernel
theorem dX11_passes_14 : decode cX11_passes 14 = .ok (.iconst 1, 1) := by decide +kernel
theorem dX11_passes_15 : decode cX11_passes 15 = .ok (.istore_n 2, 1) := by decide +kernel
theorem dX11_passes_16 : decode cX11_passes 16 = .ok (.iload_n 2, 1) := by decide +kernel
theorem dX11_passes_17 : decode cX11_passes 17 = .ok (.sipush 200, 3) := by decide +kernel
theorem dX11_passes_20 : decode cX11_passes 20 = .ok (.if_icmp .gt 34, 3) := by decide +kernel
theorem dX11_passes_23 : decode cX11_passes 23 = .ok (.aload_n 0, 1) := by decide +kernel
theorem dX11_passes_24 : decode cX11_passes 24 = .ok (.invokevirtual 394, 3) := by decide +kernel
theorem dX11_passes_27 : decode cX11_passes 27 = .ok (.aload_n 0, 1) := by decide +kernel
theorem dX11_passes_28 : decode cX11_passes 28 = .ok (.invokevirtual 403, 3) := by decide +kernel
theorem dX11_passes_31 : decode cX11_passes 31 = .ok (.aload_n 0, 1) := by decide +kernel
theorem dX11_passes_32 : decode cX11_passes 32 = .ok (.getfield 137, 3) := by decide +kernel
theorem dX11_passes_35 : decode cX11_passes 35 = .ok (.iload_n 1, 1) := by decide +kernel
theorem dX11_passes_36 : decode cX11_passes 36 = .ok (.iaload, 1) := by decide +kernel
theorem dX11_passes_37 : decode cX11_passes 37 = .ok (.aload_n 0, 1) := by decide +kernel
theorem dX11_passes_38 : decode cX11_passes 38 = .ok (.getfield 149, 3) := by decide +kernel
theorem dX11_passes_41 : decode cX11_passes 41 = .ok (.iload_n 1, 1) := by decide +kernel
theorem dX11_passes_42 : decode cX11_passes 42 = .ok (.iaload, 1) := by decide +kernel
theorem dX11_passes_43 : decode cX11_passes 43 = .ok (.if_icmp .eq 5, 3) := by decide +kernel
theorem dX11_passes_46 : decode cX11_passes 46 = .ok (.iload_n 2, 1) := by decide +kernel
theorem dX11_passes_47 : decode cX11_passes 47 = .ok (.ireturn, 1) := by decide +kernel
theorem dX11_passes_48 : decode cX11_passes 48 = .ok (.iinc 2 1, 3) := by decide +kernel
theorem dX11_passes_51 : decode cX11_passes 51 = .ok (.goto (-35), 3) := by decide +kernel
theorem dX11_passes_54 : decode cX11_passes 54 = .ok (.bipush (-2), 2) := by decide +kernel
theorem dX11_passes_56 : decode cX11_passes 56 = .ok (.ireturn, 1) := by decide +kernel
theorem dX11_weakest_0 : decode cX11_weakest 0 = .ok (.iload_n 1, 1) := by decide +kernel
theorem dX11_weakest_1 : decode cX11_weakest 1 = .ok (.iconst 0, 1) := by decide +kernel
theorem dX11_weakest_2 : decode cX11_weakest 2 = .ok (.iconst 1, 1) := by decide +kernel
theorem dX11_weakest_3 : decode cX11_weakest 3 = .ok (.invokestatic 340, 3) := by decide +kernel
theorem dX11_weakest_6 : decode cX11_weakest 6 = .ok (.ifCond .ne 5, 3) := by decide +kernel
theorem dX11_weakest_9 : decode cX11_weakest 9 = .ok (.iconst (-1), 1) := by decide +kernel
theorem dX11_weakest_10 : decode cX11_weakest 10 = .ok (.ireturn, 1) := by decide +kernel
theorem dX11_weakest_11 : decode cX11_weakest 11 = .ok (.aload_n 0, 1) := by decide +kernel
theorem dX11_weakest_12 : decode cX11_weakest 12 = .ok (.iconst 0, 1) := by decide +kernel
theorem dX11_weakest_13 : decode cX11_weakest 13 = .ok (.invokevirtual 464, 3) := by decide +kernel
theorem dX11_weakest_16 : decode cX11_weakest 16 = .ok (.bipush (-2), 2) := by decide +kernel
theorem dX11_weakest_18 : decode cX11_weakest 18 = .ok (.istore_n 2, 1) := by decide +kernel
theorem dX11_weakest_19 : decode cX11_weakest 19 = .ok (.bipush (-2), 2) := by decide +kernel
theorem dX11_weakest_21 : decode cX11_weakest 21 = .ok (.istore_n 3, 1) := by decide +kernel
theorem dX11_weakest_22 : decode cX11_weakest 22 = .ok (.iconst 0, 1) := by decide +kernel
theorem dX11_weakest_23 : decode cX11_weakest 23 = .ok (.istore 4, 2) := by decide +kernel
theorem dX11_weakest_25 : decode cX11_weakest 25 = .ok (.iload 4, 2) := by decide +kernel
theorem dX11_weakest_27 : decode cX11_weakest 27 = .ok (.aload_n 0, 1) := by decide +kernel
theorem dX11_weakest_28 : decode cX11_weakest 28 = .ok (.getfield 134, 3) := by decide +kernel
theorem dX11_weakest_31 : decode cX11_weakest 31 = .ok (.bipush 15, 2) := by decide +kernel
theorem dX11_weakest_33 : decode cX11_weakest 33 = .ok (.iaload, 1) := by decide +kernel
theorem dX11_weakest_34 : decode cX11_weakest 34 = .ok (.if_icmp .ge 49, 3) := by decide +kernel
theorem dX11_weakest_37 : decode cX11_weakest 37 = .ok (.aload_n 0, 1) := by decide +kernel
theorem dX11_weakest_38 : decode cX11_weakest 38 = .ok (.iload 4, 2) := by decide +kernel
theorem dX11_weakest_40 : decode cX11_weakest 40 = .ok (.invokevirtual 382, 3) := by decide +kernel
theorem dX11_weakest_43 : decode cX11_weakest 43 = .ok (.invokestatic 366, 3) := by decide +kernel
theorem dX11_weakest_46 : decode cX11_weakest 46 = .ok (.istore 5, 2) := by decide +kernel
theorem dX11_weakest_48 : decode cX11_weakest 48 = .ok (.aload_n 0, 1) := by decide +kernel
theorem dX11_weakest_49 : decode cX11_weakest 49 = .ok (.getfield 143, 3) := by decide +kernel
theorem dX11_weakest_52 : decode cX11_weakest 52 = .ok (.iload 4, 2) := by decide +kernel
theorem dX11_weakest_54 : decode cX11_weakest 54 = .ok (.baload, 1) := by decide +kernel
theorem dX11_weakest_55 : decode cX11_weakest 55 = .ok (.ifCond .eq 22, 3) := by decide +kernel
theorem dX11_weakest_58 : decode cX11_weakest 58 = .ok (.iload_n 2, 1) := by decide +kernel
theorem dX11_weakest_59 : decode cX11_weakest 59 = .ok (.ifCond .lt 12, 3) := by decide +kernel
theorem dX11_weakest_62 : decode cX11_weakest 62 = .ok (.iload 5, 2) := by decide +kernel
theorem dX11_weakest_64 : decode cX11_weakest 64 = .ok (.iload_n 3, 1) := by decide +kernel
theorem dX11_weakest_65 : decode cX11_weakest 65 = .ok (.if_icmp .lt 6, 3) := by decide +kernel
theorem dX11_weakest_68 : decode cX11_weakest 68 = .ok (.goto 9, 3) := by decide +kernel
theorem dX11_weakest_71 : decode cX11_weakest 71 = .ok (.iload 4, 2) := by decide +kernel
theorem dX11_weakest_73 : decode cX11_weakest 73 = .ok (.istore_n 2, 1) := by decide +kernel
theorem dX11_weakest_74 : decode cX11_weakest 74 = .ok (.iload 5, 2) := by decide +kernel
theorem dX11_weakest_76 : decode cX11_weakest 76 = .ok (.istore_n 3, 1) := by decide +kernel
theorem dX11_weakest_77 : decode cX11_weakest 77 = .ok (.iinc 4 1, 3) := by decide +kernel
theorem dX11_weakest_80 : decode cX11_weakest 80 = .ok (.goto (-55), 3) := by decide +kernel
theorem dX11_weakest_83 : decode cX11_weakest 83 = .ok (.iload_n 1, 1) := by decide +kernel
theorem dX11_weakest_84 : decode cX11_weakest 84 = .ok (.ifCond .ne 7, 3) := by decide +kernel
theorem dX11_weakest_87 : decode cX11_weakest 87 = .ok (.iload_n 2, 1) := by decide +kernel
theorem dX11_weakest_88 : decode cX11_weakest 88 = .ok (.goto 4, 3) := by decide +kernel
theorem dX11_weakest_91 : decode cX11_weakest 91 = .ok (.iload_n 3, 1) := by decide +kernel
theorem dX11_weakest_92 : decode cX11_weakest 92 = .ok (.ireturn, 1) := by decide +kernel
theorem dX11_ownerIn_0 : decode cX11_ownerIn 0 = .ok (.aload_n 0, 1) := by decide +kernel
theorem dX11_ownerIn_1 : decode cX11_ownerIn 1 = .ok (.iload_n 1, 1) := by decide +kernel
theorem dX11_ownerIn_2 : decode cX11_ownerIn 2 = .ok (.invokevirtual 397, 3) := by decide +kernel
theorem dX11_ownerIn_5 : decode cX11_ownerIn 5 = .ok (.ifCond .eq 10, 3) := by decide +kernel
theorem dX11_ownerIn_8 : decode cX11_ownerIn 8 = .ok (.iload_n 2, 1) := by decide +kernel
theorem dX11_ownerIn_9 : decode cX11_ownerIn 9 = .ok (.invokestatic 439, 3) := by decide +kernel
theorem dX11_ownerIn_12 : decode cX11_ownerIn 12 = .ok (.ifCond .ne 5, 3) := by decide +kernel
theorem dX11_ownerIn_15 : decode cX11_ownerIn 15 = .ok (.iconst (-1), 1) := by decide +kernel
theorem dX11_ownerIn_16 : decode cX11_ownerIn 16 = .ok (.ireturn, 1) := by decide +kernel
theorem dX11_ownerIn_17 : decode cX11_ownerIn 17 = .ok (.aload_n 0, 1) := by decide +kernel
theorem dX11_ownerIn_18 : decode cX11_ownerIn 18 = .ok (.iload_n 2, 1) := by decide +kernel
theorem dX11_ownerIn_19 : decode cX11_ownerIn 19 = .ok (.invokevirtual 464, 3) := by decide +kernel
theorem dX11_ownerIn_22 : decode cX11_ownerIn 22 = .ok (.aload_n 0, 1) := by decide +kernel
theorem dX11_ownerIn_23 : decode cX11_ownerIn 23 = .ok (.getfield 137, 3) := by decide +kernel
theorem dX11_ownerIn_26 : decode cX11_ownerIn 26 = .ok (.iload_n 1, 1) := by decide +kernel
theorem dX11_ownerIn_27 : decode cX11_ownerIn 27 = .ok (.iaload, 1) := by decide +kernel
theorem dX11_ownerIn_28 : decode cX11_ownerIn 28 = .ok (.ireturn, 1) := by decide +kernel
theorem dX11_then_0 : decode cX11_then 0 = .ok (.aload_n 0, 1) := by decide +kernel
theorem dX11_then_1 : decode cX11_then 1 = .ok (.iload_n 1, 1) := by decide +kernel
theorem dX11_then_2 : decode cX11_then 2 = .ok (.invokevirtual 409, 3) := by decide +kernel
theorem dX11_then_5 : decode cX11_then 5 = .ok (.ifCond .eq 19, 3) := by decide +kernel
theorem dX11_then_8 : decode cX11_then 8 = .ok (.iload_n 2, 1) := by decide +kernel
theorem dX11_then_9 : decode cX11_then 9 = .ok (.invokestatic 439, 3) := by decide +kernel
theorem dX11_then_12 : decode cX11_then 12 = .ok (.ifCond .eq 12, 3) := by decide +kernel
theorem dX11_then_15 : decode cX11_then 15 = .ok (.iload_n 3, 1) := by decide +kernel
theorem dX11_then_16 : decode cX11_then 16 = .ok (.iconst 0, 1) := by decide +kernel
theorem dX11_then_17 : decode cX11_then 17 = .ok (.iconst 1, 1) := by decide +kernel
theorem dX11_then_18 : decode cX11_then 18 = .ok (.invokestatic 340, 3) := by decide +kernel
theorem dX11_then_21 : decode cX11_then 21 = .ok (.ifCond .ne 5, 3) := by decide +kernel
theorem dX11_then_24 : decode cX11_then 24 = .ok (.iconst (-1), 1) := by decide +kernel
theorem dX11_then_25 : decode cX11_then 25 = .ok (.ireturn, 1) := by decide +kernel
theorem dX11_then_26 : decode cX11_then 26 = .ok (.aload_n 0, 1) := by decide +kernel
theorem dX11_then_27 : decode cX11_then 27 = .ok (.iload_n 2, 1) := by decide +kernel
theorem dX11_then_28 : decode cX11_then 28 = .ok (.invokevirtual 464, 3) := by decide +kernel
theorem dX11_then_31 : decode cX11_then 31 = .ok (.aload_n 0, 1) := by decide +kernel
theorem dX11_then_32 : decode cX11_then 32 = .ok (.getfield 134, 3) := by decide +kernel
theorem dX11_then_35 : decode cX11_then 35 = .ok (.bipush 7, 2) := by decide +kernel
theorem dX11_then_37 : decode cX11_then 37 = .ok (.iload_n 3, 1) := by decide +kernel
theorem dX11_then_38 : decode cX11_then 38 = .ok (.imul, 1) := by decide +kernel
theorem dX11_then_39 : decode cX11_then 39 = .ok (.iload_n 1, 1) := by decide +kernel
theorem dX11_then_40 : decode cX11_then 40 = .ok (.iadd, 1) := by decide +kernel
theorem dX11_then_41 : decode cX11_then 41 = .ok (.iaload, 1) := by decide +kernel
theorem dX11_then_42 : decode cX11_then 42 = .ok (.ireturn, 1) := by decide +kernel
theorem dX11_swearIn_0 : decode cX11_swearIn 0 = .ok (.aload_n 0, 1) := by decide +kernel
theorem dX11_swearIn_1 : decode cX11_swearIn 1 = .ok (.iload_n 1, 1) := by decide +kernel
theorem dX11_swearIn_2 : decode cX11_swearIn 2 = .ok (.invokevirtual 412, 3) := by decide +kernel
theorem dX11_swearIn_5 : decode cX11_swearIn 5 = .ok (.ifCond .eq 10, 3) := by decide +kernel
theorem dX11_swearIn_8 : decode cX11_swearIn 8 = .ok (.iload_n 2, 1) := by decide +kernel
theorem dX11_swearIn_9 : decode cX11_swearIn 9 = .ok (.invokestatic 439, 3) := by decide +kernel
theorem dX11_swearIn_12 : decode cX11_swearIn 12 = .ok (.ifCond .ne 5, 3) := by decide +kernel
theorem dX11_swearIn_15 : decode cX11_swearIn 15 = .ok (.iconst (-1), 1) := by decide +kernel
theorem dX11_swearIn_16 : decode cX11_swearIn 16 = .ok (.ireturn, 1) := by decide +kernel
theorem dX11_swearIn_17 : decode cX11_swearIn 17 = .ok (.aload_n 0, 1) := by decide +kernel
theorem dX11_swearIn_18 : decode cX11_swearIn 18 = .ok (.iload_n 2, 1) := by decide +kernel
theorem dX11_swearIn_19 : decode cX11_swearIn 19 = .ok (.invokevirtual 464, 3) := by decide +kernel
theorem dX11_swearIn_22 : decode cX11_swearIn 22 = .ok (.aload_n 0, 1) := by decide +kernel
theorem dX11_swearIn_23 : decode cX11_swearIn 23 = .ok (.iload_n 1, 1) := by decide +kernel
theorem dX11_swearIn_24 : decode cX11_swearIn 24 = .ok (.invokevirtual 382, 3) := by decide +kernel
theorem dX11_swearIn_27 : decode cX11_swearIn 27 = .ok (.invokestatic 366, 3) := by decide +kernel
theorem dX11_swearIn_30 : decode cX11_swearIn 30 = .ok (.ireturn, 1) := by decide +kernel
theorem dX11_year_0 : decode cX11_year 0 = .ok (.aload_n 0, 1) := by decide +kernel
theorem dX11_year_1 : decode cX11_year 1 = .ok (.iload_n 1, 1) := by decide +kernel
theorem dX11_year_2 : decode cX11_year 2 = .ok (.invokevirtual 397, 3) := by decide +kernel
theorem dX11_year_5 : decode cX11_year 5 = .ok (.ifCond .eq 29, 3) := by decide +kernel
theorem dX11_year_8 : decode cX11_year 8 = .ok (.aload_n 0, 1) := by decide +kernel
theorem dX11_year_9 : decode cX11_year 9 = .ok (.iload_n 2, 1) := by decide +kernel
theorem dX11_year_10 : decode cX11_year 10 = .ok (.invokevirtual 415, 3) := by decide +kernel
theorem dX11_year_13 : decode cX11_year 13 = .ok (.ifCond .eq 21, 3) := by decide +kernel
theorem dX11_year_16 : decode cX11_year 16 = .ok (.iload_n 3, 1) := by decide +kernel
theorem dX11_year_17 : decode cX11_year 17 = .ok (.invokestatic 439, 3) := by decide +kernel
theorem dX11_year_20 : decode cX11_year 20 = .ok (.ifCond .eq 14, 3) := by decide +kernel
theorem dX11_year_23 : decode cX11_year 23 = .ok (.iload 4, 2) := by decide +kernel
theorem dX11_year_25 : decode cX11_year 25 = .ok (.iconst 1, 1) := by decide +kernel
theorem dX11_year_26 : decode cX11_year 26 = .ok (.bipush 20, 2) := by decide +kernel
theorem dX11_year_28 : decode cX11_year 28 = .ok (.invokestatic 340, 3) := by decide +kernel
theorem dX11_year_31 : decode cX11_year 31 = .ok (.ifCond .ne 5, 3) := by decide +kernel
theorem dX11_year_34 : decode cX11_year 34 = .ok (.iconst (-1), 1) := by decide +kernel
theorem dX11_year_35 : decode cX11_year 35 = .ok (.ireturn, 1) := by decide +kernel
theorem dX11_year_36 : decode cX11_year 36 = .ok (.iconst 0, 1) := by decide +kernel
theorem dX11_year_37 : decode cX11_year 37 = .ok (.istore 5, 2) := by decide +kernel
theorem dX11_year_39 : decode cX11_year 39 = .ok (.iconst 0, 1) := by decide +kernel
theorem dX11_year_40 : decode cX11_year 40 = .ok (.istore 6, 2) := by decide +kernel
theorem dX11_year_42 : decode cX11_year 42 = .ok (.iload 6, 2) := by decide +kernel
theorem dX11_year_44 : decode cX11_year 44 = .ok (.iload 4, 2) := by decide +kernel
theorem dX11_year_46 : decode cX11_year 46 = .ok (.if_icmp .ge 46, 3) := by decide +kernel
theorem dX11_year_49 : decode cX11_year 49 = .ok (.aload_n 0, 1) := by decide +kernel
theorem dX11_year_50 : decode cX11_year 50 = .ok (.invokevirtual 400, 3) := by decide +kernel
theorem dX11_year_53 : decode cX11_year 53 = .ok (.aload_n 0, 1) := by decide +kernel
theorem dX11_year_54 : decode cX11_year 54 = .ok (.dup, 1) := by decide +kernel
theorem dX11_year_55 : decode cX11_year 55 = .ok (.getfield 344, 3) := by decide +kernel
theorem dX11_year_58 : decode cX11_year 58 = .ok (.iload 6, 2) := by decide +kernel
theorem dX11_year_60 : decode cX11_year 60 = .ok (.iadd, 1) := by decide +kernel
theorem dX11_year_61 : decode cX11_year 61 = .ok (.putfield 344, 3) := by decide +kernel
theorem dX11_year_64 : decode cX11_year 64 = .ok (.aload_n 0, 1) := by decide +kernel
theorem dX11_year_65 : decode cX11_year 65 = .ok (.iload_n 3, 1) := by decide +kernel
theorem dX11_year_66 : decode cX11_year 66 = .ok (.invokevirtual 424, 3) := by decide +kernel
theorem dX11_year_69 : decode cX11_year 69 = .ok (.aload_n 0, 1) := by decide +kernel
theorem dX11_year_70 : decode cX11_year 70 = .ok (.invokevirtual 403, 3) := by decide +kernel
theorem dX11_year_73 : decode cX11_year 73 = .ok (.aload_n 0, 1) := by decide +kernel
theorem dX11_year_74 : decode cX11_year 74 = .ok (.getfield 137, 3) := by decide +kernel
theorem dX11_year_77 : decode cX11_year 77 = .ok (.iload_n 1, 1) := by decide +kernel
theorem dX11_year_78 : decode cX11_year 78 = .ok (.iaload, 1) := by decide +kernel
theorem dX11_year_79 : decode cX11_year 79 = .ok (.iload_n 2, 1) := by decide +kernel
theorem dX11_year_80 : decode cX11_year 80 = .ok (.if_icmp .ne 6, 3) := by decide +kernel
theorem dX11_year_83 : decode cX11_year 83 = .ok (.iinc 5 1, 3) := by decide +kernel
theorem dX11_year_86 : decode cX11_year 86 = .ok (.iinc 6 1, 3) := by decide +kernel
theorem dX11_year_89 : decode cX11_year 89 = .ok (.goto (-47), 3) := by decide +kernel
theorem dX11_year_92 : decode cX11_year 92 = .ok (.iload 5, 2) := by decide +kernel
theorem dX11_year_94 : decode cX11_year 94 = .ok (.ireturn, 1) := by decide +kernel
theorem dX11_tell_0 : decode cX11_tell 0 = .ok (.aload_n 0, 1) := by decide +kernel
theorem dX11_tell_1 : decode cX11_tell 1 = .ok (.getfield 275, 3) := by decide +kernel
theorem dX11_tell_4 : decode cX11_tell 4 = .ok (.bipush 20, 2) := by decide +kernel
theorem dX11_tell_6 : decode cX11_tell 6 = .ok (.if_icmp .eq 11, 3) := by decide +kernel
theorem dX11_tell_9 : decode cX11_tell 9 = .ok (.aload_n 0, 1) := by decide +kernel
theorem dX11_tell_10 : decode cX11_tell 10 = .ok (.iload_n 1, 1) := by decide +kernel
theorem dX11_tell_11 : decode cX11_tell 11 = .ok (.invokevirtual 409, 3) := by decide +kernel
theorem dX11_tell_14 : decode cX11_tell 14 = .ok (.ifCond .ne 5, 3) := by decide +kernel
theorem dX11_tell_17 : decode cX11_tell 17 = .ok (.iconst (-1), 1) := by decide +kernel
theorem dX11_tell_18 : decode cX11_tell 18 = .ok (.ireturn, 1) := by decide +kernel
theorem dX11_tell_19 : decode cX11_tell 19 = .ok (.aload_n 0, 1) := by decide +kernel
theorem dX11_tell_20 : decode cX11_tell 20 = .ok (.getfield 161, 3) := by decide +kernel
theorem dX11_tell_23 : decode cX11_tell 23 = .ok (.aload_n 0, 1) := by decide +kernel
theorem dX11_tell_24 : decode cX11_tell 24 = .ok (.getfield 275, 3) := by decide +kernel
theorem dX11_tell_27 : decode cX11_tell 27 = .ok (.iload_n 1, 1) := by decide +kernel
theorem dX11_tell_28 : decode cX11_tell 28 = .ok (.iastore, 1) := by decide +kernel
theorem dX11_tell_29 : decode cX11_tell 29 = .ok (.aload_n 0, 1) := by decide +kernel
theorem dX11_tell_30 : decode cX11_tell 30 = .ok (.getfield 164, 3) := by decide +kernel
theorem dX11_tell_33 : decode cX11_tell 33 = .ok (.aload_n 0, 1) := by decide +kernel
theorem dX11_tell_34 : decode cX11_tell 34 = .ok (.getfield 275, 3) := by decide +kernel
theorem dX11_tell_37 : decode cX11_tell 37 = .ok (.iload_n 2, 1) := by decide +kernel
theorem dX11_tell_38 : decode cX11_tell 38 = .ok (.ifCond .eq 7, 3) := by decide +kernel
theorem dX11_tell_41 : decode cX11_tell 41 = .ok (.iconst 1, 1) := by decide +kernel
theorem dX11_tell_42 : decode cX11_tell 42 = .ok (.goto 4, 3) := by decide +kernel
theorem dX11_tell_45 : decode cX11_tell 45 = .ok (.iconst 0, 1) := by decide +kernel
theorem dX11_tell_46 : decode cX11_tell 46 = .ok (.iastore, 1) := by decide +kernel
theorem dX11_tell_47 : decode cX11_tell 47 = .ok (.aload_n 0, 1) := by decide +kernel
theorem dX11_tell_48 : decode cX11_tell 48 = .ok (.dup, 1) := by decide +kernel
theorem dX11_tell_49 : decode cX11_tell 49 = .ok (.getfield 275, 3) := by decide +kernel
theorem dX11_tell_52 : decode cX11_tell 52 = .ok (.iconst 1, 1) := by decide +kernel
theorem dX11_tell_53 : decode cX11_tell 53 = .ok (.iadd, 1) := by decide +kernel
theorem dX11_tell_54 : decode cX11_tell 54 = .ok (.putfield 275, 3) := by decide +kernel
theorem dX11_tell_57 : decode cX11_tell 57 = .ok (.aload_n 0, 1) := by decide +kernel
theorem dX11_tell_58 : decode cX11_tell 58 = .ok (.getfield 275, 3) := by decide +kernel
theorem dX11_tell_61 : decode cX11_tell 61 = .ok (.iconst 1, 1) := by decide +kernel
theorem dX11_tell_62 : decode cX11_tell 62 = .ok (.isub, 1) := by decide +kernel
theorem dX11_tell_63 : decode cX11_tell 63 = .ok (.ireturn, 1) := by decide +kernel
theorem dX11_forget_0 : decode cX11_forget 0 = .ok (.aload_n 0, 1) := by decide +kernel
theorem dX11_forget_1 : decode cX11_forget 1 = .ok (.getfield 275, 3) := by decide +kernel
theorem dX11_forget_4 : decode cX11_forget 4 = .ok (.istore_n 1, 1) := by decide +kernel
theorem dX11_forget_5 : decode cX11_forget 5 = .ok (.aload_n 0, 1) := by decide +kernel
theorem dX11_forget_6 : decode cX11_forget 6 = .ok (.iconst 0, 1) := by decide +kernel
theorem dX11_forget_7 : decode cX11_forget 7 = .ok (.putfield 275, 3) := by decide +kernel
theorem dX11_forget_10 : decode cX11_forget 10 = .ok (.iload_n 1, 1) := by decide +kernel
theorem dX11_forget_11 : decode cX11_forget 11 = .ok (.ireturn, 1) := by decide +kernel
theorem dX11_whichBits_0 : decode cX11_whichBits 0 = .ok (.aload_n 0, 1) := by decide +kernel
theorem dX11_whichBits_1 : decode cX11_whichBits 1 = .ok (.invokevirtual 400, 3) := by decide +kernel
theorem dX11_whichBits_4 : decode cX11_whichBits 4 = .ok (.iconst 0, 1) := by decide +kernel
theorem dX11_whichBits_5 : decode cX11_whichBits 5 = .ok (.istore_n 2, 1) := by decide +kernel
theorem dX11_whichBits_6 : decode cX11_whichBits 6 = .ok (.iconst 0, 1) := by decide +kernel
theorem dX11_whichBits_7 : decode cX11_whichBits 7 = .ok (.istore_n 3, 1) := by decide +kernel
theorem dX11_whichBits_8 : decode cX11_whichBits 8 = .ok (.iload_n 3, 1) := by decide +kernel
theorem dX11_whichBits_9 : decode cX11_whichBits 9 = .ok (.aload_n 0, 1) := by decide +kernel
theorem dX11_whichBits_10 : decode cX11_whichBits 10 = .ok (.getfield 134, 3) := by decide +kernel
theorem dX11_whichBits_13 : decode cX11_whichBits 13 = .ok (.bipush 15, 2) := by decide +kernel
theorem dX11_whichBits_15 : decode cX11_whichBits 15 = .ok (.iaload, 1) := by decide +kernel
theorem dX11_whichBits_16 : decode cX11_whichBits 16 = .ok (.if_icmp .ge 70, 3) := by decide +kernel
theorem dX11_whichBits_19 : decode cX11_whichBits 19 = .ok (.aload_n 0, 1) := by decide +kernel
theorem dX11_whichBits_20 : decode cX11_whichBits 20 = .ok (.iload_n 3, 1) := by decide +kernel
theorem dX11_whichBits_21 : decode cX11_whichBits 21 = .ok (.invokevirtual 382, 3) := by decide +kernel
theorem dX11_whichBits_24 : decode cX11_whichBits 24 = .ok (.istore 4, 2) := by decide +kernel
theorem dX11_whichBits_26 : decode cX11_whichBits 26 = .ok (.iconst 1, 1) := by decide +kernel
theorem dX11_whichBits_27 : decode cX11_whichBits 27 = .ok (.istore 5, 2) := by decide +kernel
theorem dX11_whichBits_29 : decode cX11_whichBits 29 = .ok (.iconst 0, 1) := by decide +kernel
theorem dX11_whichBits_30 : decode cX11_whichBits 30 = .ok (.istore 6, 2) := by decide +kernel
theorem dX11_whichBits_32 : decode cX11_whichBits 32 = .ok (.iload 6, 2) := by decide +kernel
theorem dX11_whichBits_34 : decode cX11_whichBits 34 = .ok (.iload_n 1, 1) := by decide +kernel
theorem dX11_whichBits_35 : decode cX11_whichBits 35 = .ok (.if_icmp .ge 34, 3) := by decide +kernel
theorem dX11_whichBits_38 : decode cX11_whichBits 38 = .ok (.iload 4, 2) := by decide +kernel
theorem dX11_whichBits_40 : decode cX11_whichBits 40 = .ok (.aload_n 0, 1) := by decide +kernel
theorem dX11_whichBits_41 : decode cX11_whichBits 41 = .ok (.getfield 161, 3) := by decide +kernel
theorem dX11_whichBits_44 : decode cX11_whichBits 44 = .ok (.iload 6, 2) := by decide +kernel
theorem dX11_whichBits_46 : decode cX11_whichBits 46 = .ok (.iaload, 1) := by decide +kernel
theorem dX11_whichBits_47 : decode cX11_whichBits 47 = .ok (.ishr, 1) := by decide +kernel
theorem dX11_whichBits_48 : decode cX11_whichBits 48 = .ok (.iconst 1, 1) := by decide +kernel
theorem dX11_whichBits_49 : decode cX11_whichBits 49 = .ok (.iand, 1) := by decide +kernel
theorem dX11_whichBits_50 : decode cX11_whichBits 50 = .ok (.aload_n 0, 1) := by decide +kernel
theorem dX11_whichBits_51 : decode cX11_whichBits 51 = .ok (.getfield 164, 3) := by decide +kernel
theorem dX11_whichBits_54 : decode cX11_whichBits 54 = .ok (.iload 6, 2) := by decide +kernel
theorem dX11_whichBits_56 : decode cX11_whichBits 56 = .ok (.iaload, 1) := by decide +kernel
theorem dX11_whichBits_57 : decode cX11_whichBits 57 = .ok (.if_icmp .eq 6, 3) := by decide +kernel
theorem dX11_whichBits_60 : decode cX11_whichBits 60 = .ok (.iconst 0, 1) := by decide +kernel
theorem dX11_whichBits_61 : decode cX11_whichBits 61 = .ok (.istore 5, 2) := by decide +kernel
theorem dX11_whichBits_63 : decode cX11_whichBits 63 = .ok (.iinc 6 1, 3) := by decide +kernel
theorem dX11_whichBits_66 : decode cX11_whichBits 66 = .ok (.goto (-34), 3) := by decide +kernel
theorem dX11_whichBits_69 : decode cX11_whichBits 69 = .ok (.iload 5, 2) := by decide +kernel
theorem dX11_whichBits_71 : decode cX11_whichBits 71 = .ok (.ifCond .eq 9, 3) := by decide +kernel
theorem dX11_whichBits_74 : decode cX11_whichBits 74 = .ok (.iload_n 2, 1) := by decide +kernel
theorem dX11_whichBits_75 : decode cX11_whichBits 75 = .ok (.iconst 1, 1) := by decide +kernel
theorem dX11_whichBits_76 : decode cX11_whichBits 76 = .ok (.iload_n 3, 1) := by decide +kernel
theorem dX11_whichBits_77 : decode cX11_whichBits 77 = .ok (.ishl, 1) := by decide +kernel
theorem dX11_whichBits_78 : decode cX11_whichBits 78 = .ok (.ior, 1) := by decide +kernel
theorem dX11_whichBits_79 : decode cX11_whichBits 79 = .ok (.istore_n 2, 1) := by decide +kernel
theorem dX11_whichBits_80 : decode cX11_whichBits 80 = .ok (.iinc 3 1, 3) := by decide +kernel
theorem dX11_whichBits_83 : decode cX11_whichBits 83 = .ok (.goto (-75), 3) := by decide +kernel
theorem dX11_whichBits_86 : decode cX11_whichBits 86 = .ok (.iload_n 2, 1) := by decide +kernel
theorem dX11_whichBits_87 : decode cX11_whichBits 87 = .ok (.ireturn, 1) := by decide +kernel
theorem dX11_which_0 : decode cX11_which 0 = .ok (.iload_n 1, 1) := by decide +kernel
theorem dX11_which_1 : decode cX11_which 1 = .ok (.iconst 0, 1) := by decide +kernel
theorem dX11_which_2 : decode cX11_which 2 = .ok (.aload_n 0, 1) := by decide +kernel
theorem dX11_which_3 : decode cX11_which 3 = .ok (.getfield 275, 3) := by decide +kernel
theorem dX11_which_6 : decode cX11_which 6 = .ok (.invokestatic 340, 3) := by decide +kernel
theorem dX11_which_9 : decode cX11_which 9 = .ok (.ifCond .eq 12, 3) := by decide +kernel
theorem dX11_which_12 : decode cX11_which 12 = .ok (.iload_n 2, 1) := by decide +kernel
theorem dX11_which_13 : decode cX11_which 13 = .ok (.iconst 0, 1) := by decide +kernel
theorem dX11_which_14 : decode cX11_which 14 = .ok (.iconst 1, 1) := by decide +kernel
theorem dX11_which_15 : decode cX11_which 15 = .ok (.invokestatic 340, 3) := by decide +kernel
theorem dX11_which_18 : decode cX11_which 18 = .ok (.ifCond .ne 5, 3) := by decide +kernel
theorem dX11_which_21 : decode cX11_which 21 = .ok (.iconst (-1), 1) := by decide +kernel
theorem dX11_which_22 : decode cX11_which 22 = .ok (.ireturn, 1) := by decide +kernel
theorem dX11_which_23 : decode cX11_which 23 = .ok (.aload_n 0, 1) := by decide +kernel
theorem dX11_which_24 : decode cX11_which 24 = .ok (.iload_n 1, 1) := by decide +kernel
theorem dX11_which_25 : decode cX11_which 25 = .ok (.invokevirtual 473, 3) := by decide +kernel
theorem dX11_which_28 : decode cX11_which 28 = .ok (.istore_n 3, 1) := by decide +kernel
theorem dX11_which_29 : decode cX11_which 29 = .ok (.iload_n 2, 1) := by decide +kernel
theorem dX11_which_30 : decode cX11_which 30 = .ok (.ifCond .ne 10, 3) := by decide +kernel
theorem dX11_which_33 : decode cX11_which 33 = .ok (.iload_n 3, 1) := by decide +kernel
theorem dX11_which_34 : decode cX11_which 34 = .ok (.invokestatic 366, 3) := by decide +kernel
theorem dX11_which_37 : decode cX11_which 37 = .ok (.goto 4, 3) := by decide +kernel
theorem dX11_which_40 : decode cX11_which 40 = .ok (.iload_n 3, 1) := by decide +kernel
theorem dX11_which_41 : decode cX11_which 41 = .ok (.ireturn, 1) := by decide +kernel
theorem dX11_ask_0 : decode cX11_ask 0 = .ok (.iload_n 1, 1) := by decide +kernel
theorem dX11_ask_1 : decode cX11_ask 1 = .ok (.iconst 0, 1) := by decide +kernel
theorem dX11_ask_2 : decode cX11_ask 2 = .ok (.aload_n 0, 1) := by decide +kernel
theorem dX11_ask_3 : decode cX11_ask 3 = .ok (.getfield 275, 3) := by decide +kernel
theorem dX11_ask_6 : decode cX11_ask 6 = .ok (.invokestatic 340, 3) := by decide +kernel
theorem dX11_ask_9 : decode cX11_ask 9 = .ok (.ifCond .ne 5, 3) := by decide +kernel
theorem dX11_ask_12 : decode cX11_ask 12 = .ok (.iconst (-1), 1) := by decide +kernel
theorem dX11_ask_13 : decode cX11_ask 13 = .ok (.ireturn, 1) := by decide +kernel
theorem dX11_ask_14 : decode cX11_ask 14 = .ok (.aload_n 0, 1) := by decide +kernel
theorem dX11_ask_15 : decode cX11_ask 15 = .ok (.iload_n 1, 1) := by decide +kernel
theorem dX11_ask_16 : decode cX11_ask 16 = .ok (.invokevirtual 473, 3) := by decide +kernel
theorem dX11_ask_19 : decode cX11_ask 19 = .ok (.istore_n 2, 1) := by decide +kernel
theorem dX11_ask_20 : decode cX11_ask 20 = .ok (.bipush (-2), 2) := by decide +kernel
theorem dX11_ask_22 : decode cX11_ask 22 = .ok (.istore_n 3, 1) := by decide +kernel
theorem dX11_ask_23 : decode cX11_ask 23 = .ok (.iconst 0, 1) := by decide +kernel
theorem dX11_ask_24 : decode cX11_ask 24 = .ok (.istore 4, 2) := by decide +kernel
theorem dX11_ask_26 : decode cX11_ask 26 = .ok (.iconst 0, 1) := by decide +kernel
theorem dX11_ask_27 : decode cX11_ask 27 = .ok (.istore 5, 2) := by decide +kernel
theorem dX11_ask_29 : decode cX11_ask 29 = .ok (.iload 5, 2) := by decide +kernel
theorem dX11_ask_31 : decode cX11_ask 31 = .ok (.aload_n 0, 1) := by decide +kernel
theorem dX11_ask_32 : decode cX11_ask 32 = .ok (.getfield 61, 3) := by decide +kernel
theorem dX11_ask_35 : decode cX11_ask 35 = .ok (.aload_n 0, 1) := by decide +kernel
theorem dX11_ask_36 : decode cX11_ask 36 = .ok (.getfield 254, 3) := by decide +kernel
theorem dX11_ask_39 : decode cX11_ask 39 = .ok (.iaload, 1) := by decide +kernel
theorem dX11_ask_40 : decode cX11_ask 40 = .ok (.if_icmp .ge 108, 3) := by decide +kernel
theorem dX11_ask_43 : decode cX11_ask 43 = .ok (.iload_n 2, 1) := by decide +kernel
theorem dX11_ask_44 : decode cX11_ask 44 = .ok (.ifCond .eq 104, 3) := by decide +kernel
theorem dX11_ask_47 : decode cX11_ask 47 = .ok (.iconst 0, 1) := by decide +kernel
theorem dX11_ask_48 : decode cX11_ask 48 = .ok (.istore 6, 2) := by decide +kernel
theorem dX11_ask_50 : decode cX11_ask 50 = .ok (.iconst 0, 1) := by decide +kernel
theorem dX11_ask_51 : decode cX11_ask 51 = .ok (.istore 7, 2) := by decide +kernel
theorem dX11_ask_53 : decode cX11_ask 53 = .ok (.iload 7, 2) := by decide +kernel
theorem dX11_ask_55 : decode cX11_ask 55 = .ok (.aload_n 0, 1) := by decide +kernel
theorem dX11_ask_56 : decode cX11_ask 56 = .ok (.getfield 134, 3) := by decide +kernel
theorem dX11_ask_59 : decode cX11_ask 59 = .ok (.bipush 15, 2) := by decide +kernel
theorem dX11_ask_61 : decode cX11_ask 61 = .ok (.iaload, 1) := by decide +kernel
theorem dX11_ask_62 : decode cX11_ask 62 = .ok (.if_icmp .ge 33, 3) := by decide +kernel
theorem dX11_ask_65 : decode cX11_ask 65 = .ok (.iload_n 2, 1) := by decide +kernel
theorem dX11_ask_66 : decode cX11_ask 66 = .ok (.iload 7, 2) := by decide +kernel
theorem dX11_ask_68 : decode cX11_ask 68 = .ok (.ishr, 1) := by decide +kernel
theorem dX11_ask_69 : decode cX11_ask 69 = .ok (.iconst 1, 1) := by decide +kernel
theorem dX11_ask_70 : decode cX11_ask 70 = .ok (.iand, 1) := by decide +kernel
theorem dX11_ask_71 : decode cX11_ask 71 = .ok (.iconst 1, 1) := by decide +kernel
theorem dX11_ask_72 : decode cX11_ask 72 = .ok (.if_icmp .ne 17, 3) := by decide +kernel
theorem dX11_ask_75 : decode cX11_ask 75 = .ok (.aload_n 0, 1) := by decide +kernel
theorem dX11_ask_76 : decode cX11_ask 76 = .ok (.iload 5, 2) := by decide +kernel
theorem dX11_ask_78 : decode cX11_ask 78 = .ok (.iload 7, 2) := by decide +kernel
theorem dX11_ask_80 : decode cX11_ask 80 = .ok (.invokevirtual 378, 3) := by decide +kernel
theorem dX11_ask_83 : decode cX11_ask 83 = .ok (.ifCond .eq 6, 3) := by decide +kernel
theorem dX11_ask_86 : decode cX11_ask 86 = .ok (.iinc 6 1, 3) := by decide +kernel
theorem dX11_ask_89 : decode cX11_ask 89 = .ok (.iinc 7 1, 3) := by decide +kernel
theorem dX11_ask_92 : decode cX11_ask 92 = .ok (.goto (-39), 3) := by decide +kernel
theorem dX11_ask_95 : decode cX11_ask 95 = .ok (.iload 6, 2) := by decide +kernel
theorem dX11_ask_97 : decode cX11_ask 97 = .ok (.iload_n 2, 1) := by decide +kernel
theorem dX11_ask_98 : decode cX11_ask 98 = .ok (.invokestatic 366, 3) := by decide +kernel
theorem dX11_ask_101 : decode cX11_ask 101 = .ok (.iload 6, 2) := by decide +kernel
theorem dX11_ask_103 : decode cX11_ask 103 = .ok (.isub, 1) := by decide +kernel
theorem dX11_ask_104 : decode cX11_ask 104 = .ok (.if_icmp .le 8, 3) := by decide +kernel
theorem dX11_ask_107 : decode cX11_ask 107 = .ok (.iload 6, 2) := by decide +kernel
theorem dX11_ask_109 : decode cX11_ask 109 = .ok (.goto 10, 3) := by decide +kernel
theorem dX11_ask_112 : decode cX11_ask 112 = .ok (.iload_n 2, 1) := by decide +kernel
theorem dX11_ask_113 : decode cX11_ask 113 = .ok (.invokestatic 366, 3) := by decide +kernel
theorem dX11_ask_116 : decode cX11_ask 116 = .ok (.iload 6, 2) := by decide +kernel
theorem dX11_ask_118 : decode cX11_ask 118 = .ok (.isub, 1) := by decide +kernel
theorem dX11_ask_119 : decode cX11_ask 119 = .ok (.istore 7, 2) := by decide +kernel
theorem dX11_ask_121 : decode cX11_ask 121 = .ok (.iload_n 3, 1) := by decide +kernel
theorem dX11_ask_122 : decode cX11_ask 122 = .ok (.ifCond .lt 13, 3) := by decide +kernel
theorem dX11_ask_125 : decode cX11_ask 125 = .ok (.iload 7, 2) := by decide +kernel
theorem dX11_ask_127 : decode cX11_ask 127 = .ok (.iload 4, 2) := by decide +kernel
theorem dX11_ask_129 : decode cX11_ask 129 = .ok (.if_icmp .lt 6, 3) := by decide +kernel
theorem dX11_ask_132 : decode cX11_ask 132 = .ok (.goto 10, 3) := by decide +kernel
theorem dX11_ask_135 : decode cX11_ask 135 = .ok (.iload 5, 2) := by decide +kernel
theorem dX11_ask_137 : decode cX11_ask 137 = .ok (.istore_n 3, 1) := by decide +kernel
theorem dX11_ask_138 : decode cX11_ask 138 = .ok (.iload 7, 2) := by decide +kernel
theorem dX11_ask_140 : decode cX11_ask 140 = .ok (.istore 4, 2) := by decide +kernel
theorem dX11_ask_142 : decode cX11_ask 142 = .ok (.iinc 5 1, 3) := by decide +kernel
theorem dX11_ask_145 : decode cX11_ask 145 = .ok (.goto (-116), 3) := by decide +kernel
theorem dX11_ask_148 : decode cX11_ask 148 = .ok (.iload_n 3, 1) := by decide +kernel
theorem dX11_ask_149 : decode cX11_ask 149 = .ok (.ireturn, 1) := by decide +kernel
theorem dX11_hold_0 : decode cX11_hold 0 = .ok (.iload_n 1, 1) := by decide +kernel
theorem dX11_hold_1 : decode cX11_hold 1 = .ok (.iconst 0, 1) := by decide +kernel
theorem dX11_hold_2 : decode cX11_hold 2 = .ok (.iconst 2, 1) := by decide +kernel
theorem dX11_hold_3 : decode cX11_hold 3 = .ok (.invokestatic 340, 3) := by decide +kernel
theorem dX11_hold_6 : decode cX11_hold 6 = .ok (.ifCond .ne 5, 3) := by decide +kernel
theorem dX11_hold_9 : decode cX11_hold 9 = .ok (.iconst 0, 1) := by decide +kernel
theorem dX11_hold_10 : decode cX11_hold 10 = .ok (.ireturn, 1) := by decide +kernel
theorem dX11_hold_11 : decode cX11_hold 11 = .ok (.aload_n 0, 1) := by decide +kernel
theorem dX11_hold_12 : decode cX11_hold 12 = .ok (.getfield 167, 3) := by decide +kernel
theorem dX11_hold_15 : decode cX11_hold 15 = .ok (.iload_n 1, 1) := by decide +kernel
theorem dX11_hold_16 : decode cX11_hold 16 = .ok (.iconst 1, 1) := by decide +kernel
theorem dX11_hold_17 : decode cX11_hold 17 = .ok (.bastore, 1) := by decide +kernel
theorem dX11_hold_18 : decode cX11_hold 18 = .ok (.iconst 0, 1) := by decide +kernel
theorem dX11_hold_19 : decode cX11_hold 19 = .ok (.istore_n 2, 1) := by decide +kernel
theorem dX11_hold_20 : decode cX11_hold 20 = .ok (.iload_n 2, 1) := by decide +kernel
theorem dX11_hold_21 : decode cX11_hold 21 = .ok (.bipush 117, 2) := by decide +kernel
theorem dX11_hold_23 : decode cX11_hold 23 = .ok (.if_icmp .ge 26, 3) := by decide +kernel
theorem dX11_hold_26 : decode cX11_hold 26 = .ok (.aload_n 0, 1) := by decide +kernel
theorem dX11_hold_27 : decode cX11_hold 27 = .ok (.getfield 170, 3) := by decide +kernel
theorem dX11_hold_30 : decode cX11_hold 30 = .ok (.bipush 117, 2) := by decide +kernel
theorem dX11_hold_32 : decode cX11_hold 32 = .ok (.iload_n 1, 1) := by decide +kernel
theorem dX11_hold_33 : decode cX11_hold 33 = .ok (.imul, 1) := by decide +kernel
theorem dX11_hold_34 : decode cX11_hold 34 = .ok (.iload_n 2, 1) := by decide +kernel
theorem dX11_hold_35 : decode cX11_hold 35 = .ok (.iadd, 1) := by decide +kernel
theorem dX11_hold_36 : decode cX11_hold 36 = .ok (.aload_n 0, 1) := by decide +kernel
theorem dX11_hold_37 : decode cX11_hold 37 = .ok (.getfield 131, 3) := by decide +kernel
theorem dX11_hold_40 : decode cX11_hold 40 = .ok (.iload_n 2, 1) := by decide +kernel
theorem dX11_hold_41 : decode cX11_hold 41 = .ok (.iaload, 1) := by decide +kernel
theorem dX11_hold_42 : decode cX11_hold 42 = .ok (.iastore, 1) := by decide +kernel
theorem dX11_hold_43 : decode cX11_hold 43 = .ok (.iinc 2 1, 3) := by decide +kernel
theorem dX11_hold_46 : decode cX11_hold 46 = .ok (.goto (-26), 3) := by decide +kernel
theorem dX11_hold_49 : decode cX11_hold 49 = .ok (.iconst 1, 1) := by decide +kernel
theorem dX11_hold_50 : decode cX11_hold 50 = .ok (.ireturn, 1) := by decide +kernel
theorem dX11_restore_0 : decode cX11_restore 0 = .ok (.iload_n 1, 1) := by decide +kernel
theorem dX11_restore_1 : decode cX11_restore 1 = .ok (.iconst 0, 1) := by decide +kernel
theorem dX11_restore_2 : decode cX11_restore 2 = .ok (.iconst 2, 1) := by decide +kernel
theorem dX11_restore_3 : decode cX11_restore 3 = .ok (.invokestatic 340, 3) := by decide +kernel
theorem dX11_restore_6 : decode cX11_restore 6 = .ok (.ifCond .eq 12, 3) := by decide +kernel
theorem dX11_restore_9 : decode cX11_restore 9 = .ok (.aload_n 0, 1) := by decide +kernel
theorem dX11_restore_10 : decode cX11_restore 10 = .ok (.getfield 167, 3) := by decide +kernel
theorem dX11_restore_13 : decode cX11_restore 13 = .ok (.iload_n 1, 1) := by decide +kernel
theorem dX11_restore_14 : decode cX11_restore 14 = .ok (.baload, 1) := by decide +kernel
theorem dX11_restore_15 : decode cX11_restore 15 = .ok (.ifCond .ne 5, 3) := by decide +kernel
theorem dX11_restore_18 : decode cX11_restore 18 = .ok (.iconst 0, 1) := by decide +kernel
theorem dX11_restore_19 : decode cX11_restore 19 = .ok (.ireturn, 1) := by decide +kernel
theorem dX11_restore_20 : decode cX11_restore 20 = .ok (.iconst 0, 1) := by decide +kernel
theorem dX11_restore_21 : decode cX11_restore 21 = .ok (.istore_n 2, 1) := by decide +kernel
theorem dX11_restore_22 : decode cX11_restore 22 = .ok (.iload_n 2, 1) := by decide +kernel
theorem dX11_restore_23 : decode cX11_restore 23 = .ok (.bipush 117, 2) := by decide +kernel
theorem dX11_restore_25 : decode cX11_restore 25 = .ok (.if_icmp .ge 26, 3) := by decide +kernel
theorem dX11_restore_28 : decode cX11_restore 28 = .ok (.aload_n 0, 1) := by decide +kernel
theorem dX11_restore_29 : decode cX11_restore 29 = .ok (.getfield 131, 3) := by decide +kernel
theorem dX11_restore_32 : decode cX11_restore 32 = .ok (.iload_n 2, 1) := by decide +kernel
theorem dX11_restore_33 : decode cX11_restore 33 = .ok (.aload_n 0, 1) := by decide +kernel
theorem dX11_restore_34 : decode cX11_restore 34 = .ok (.getfield 170, 3) := by decide +kernel
theorem dX11_restore_37 : decode cX11_restore 37 = .ok (.bipush 117, 2) := by decide +kernel
theorem dX11_restore_39 : decode cX11_restore 39 = .ok (.iload_n 1, 1) := by decide +kernel
theorem dX11_restore_40 : decode cX11_restore 40 = .ok (.imul, 1) := by decide +kernel
theorem dX11_restore_41 : decode cX11_restore 41 = .ok (.iload_n 2, 1) := by decide +kernel
theorem dX11_restore_42 : decode cX11_restore 42 = .ok (.iadd, 1) := by decide +kernel
theorem dX11_restore_43 : decode cX11_restore 43 = .ok (.iaload, 1) := by decide +kernel
theorem dX11_restore_44 : decode cX11_restore 44 = .ok (.iastore, 1) := by decide +kernel
theorem dX11_restore_45 : decode cX11_restore 45 = .ok (.iinc 2 1, 3) := by decide +kernel
theorem dX11_restore_48 : decode cX11_restore 48 = .ok (.goto (-26), 3) := by decide +kernel
theorem dX11_restore_51 : decode cX11_restore 51 = .ok (.aload_n 0, 1) := by decide +kernel
theorem dX11_restore_52 : decode cX11_restore 52 = .ok (.iconst 0, 1) := by decide +kernel
theorem dX11_restore_53 : decode cX11_restore 53 = .ok (.putfield 272, 3) := by decide +kernel
theorem dX11_restore_56 : decode cX11_restore 56 = .ok (.iconst 1, 1) := by decide +kernel
theorem dX11_restore_57 : decode cX11_restore 57 = .ok (.ireturn, 1) := by decide +kernel
theorem dX11_count_0 : decode cX11_count 0 = .ok (.aload_n 0, 1) := by decide +kernel
theorem dX11_count_1 : decode cX11_count 1 = .ok (.iconst 0, 1) := by decide +kernel
theorem dX11_count_2 : decode cX11_count 2 = .ok (.invokevirtual 464, 3) := by decide +kernel
theorem dX11_count_5 : decode cX11_count 5 = .ok (.iconst 0, 1) := by decide +kernel
theorem dX11_count_6 : decode cX11_count 6 = .ok (.istore_n 2, 1) := by decide +kernel
theorem dX11_count_7 : decode cX11_count 7 = .ok (.iload_n 1, 1) := by decide +kernel
theorem dX11_count_8 : decode cX11_count 8 = .ok (.tableswitch 363 0 15 #[80, 90, 100, 110, 118, 126, 163, 168, 204, 212, 217, 222, 227, 272, 282, 331], 80) := by decide +kernel
theorem dX11_count_88 : decode cX11_count 88 = .ok (.aload_n 0, 1) := by decide +kernel
theorem dX11_count_89 : decode cX11_count 89 = .ok (.getfield 46, 3) := by decide +kernel
theorem dX11_count_92 : decode cX11_count 92 = .ok (.aload_n 0, 1) := by decide +kernel
theorem dX11_count_93 : decode cX11_count 93 = .ok (.getfield 254, 3) := by decide +kernel
theorem dX11_count_96 : decode cX11_count 96 = .ok (.iaload, 1) := by decide +kernel
theorem dX11_count_97 : decode cX11_count 97 = .ok (.ireturn, 1) := by decide +kernel
theorem dX11_count_98 : decode cX11_count 98 = .ok (.aload_n 0, 1) := by decide +kernel
theorem dX11_count_99 : decode cX11_count 99 = .ok (.getfield 49, 3) := by decide +kernel
theorem dX11_count_102 : decode cX11_count 102 = .ok (.aload_n 0, 1) := by decide +kernel
theorem dX11_count_103 : decode cX11_count 103 = .ok (.getfield 254, 3) := by decide +kernel
theorem dX11_count_106 : decode cX11_count 106 = .ok (.iaload, 1) := by decide +kernel
theorem dX11_count_107 : decode cX11_count 107 = .ok (.ireturn, 1) := by decide +kernel
theorem dX11_count_108 : decode cX11_count 108 = .ok (.aload_n 0, 1) := by decide +kernel
theorem dX11_count_109 : decode cX11_count 109 = .ok (.getfield 61, 3) := by decide +kernel
theorem dX11_count_112 : decode cX11_count 112 = .ok (.aload_n 0, 1) := by decide +kernel
theorem dX11_count_113 : decode cX11_count 113 = .ok (.getfield 254, 3) := by decide +kernel
theorem dX11_count_116 : decode cX11_count 116 = .ok (.iaload, 1) := by decide +kernel
theorem dX11_count_117 : decode cX11_count 117 = .ok (.ireturn, 1) := by decide +kernel
theorem dX11_count_118 : decode cX11_count 118 = .ok (.aload_n 0, 1) := by decide +kernel
theorem dX11_count_119 : decode cX11_count 119 = .ok (.getfield 134, 3) := by decide +kernel
theorem dX11_count_122 : decode cX11_count 122 = .ok (.bipush 15, 2) := by decide +kernel
theorem dX11_count_124 : decode cX11_count 124 = .ok (.iaload, 1) := by decide +kernel
theorem dX11_count_125 : decode cX11_count 125 = .ok (.ireturn, 1) := by decide +kernel
theorem dX11_count_126 : decode cX11_count 126 = .ok (.aload_n 0, 1) := by decide +kernel
theorem dX11_count_127 : decode cX11_count 127 = .ok (.getfield 134, 3) := by decide +kernel
theorem dX11_count_130 : decode cX11_count 130 = .ok (.bipush 14, 2) := by decide +kernel
theorem dX11_count_132 : decode cX11_count 132 = .ok (.iaload, 1) := by decide +kernel
theorem dX11_count_133 : decode cX11_count 133 = .ok (.ireturn, 1) := by decide +kernel
theorem dX11_count_134 : decode cX11_count 134 = .ok (.iconst 0, 1) := by decide +kernel
theorem dX11_count_135 : decode cX11_count 135 = .ok (.istore_n 3, 1) := by decide +kernel
theorem dX11_count_136 : decode cX11_count 136 = .ok (.iload_n 3, 1) := by decide +kernel
theorem dX11_count_137 : decode cX11_count 137 = .ok (.aload_n 0, 1) := by decide +kernel
theorem dX11_count_138 : decode cX11_count 138 = .ok (.getfield 61, 3) := by decide +kernel
theorem dX11_count_141 : decode cX11_count 141 = .ok (.aload_n 0, 1) := by decide +kernel
theorem dX11_count_142 : decode cX11_count 142 = .ok (.getfield 254, 3) := by decide +kernel
theorem dX11_count_145 : decode cX11_count 145 = .ok (.iaload, 1) := by decide +kernel
theorem dX11_count_146 : decode cX11_count 146 = .ok (.if_icmp .ge 23, 3) := by decide +kernel
theorem dX11_count_149 : decode cX11_count 149 = .ok (.iload_n 2, 1) := by decide +kernel
theorem dX11_count_150 : decode cX11_count 150 = .ok (.aload_n 0, 1) := by decide +kernel
theorem dX11_count_151 : decode cX11_count 151 = .ok (.getfield 134, 3) := by decide +kernel
theorem dX11_count_154 : decode cX11_count 154 = .ok (.bipush 7, 2) := by decide +kernel
theorem dX11_count_156 : decode cX11_count 156 = .ok (.iload_n 3, 1) := by decide +kernel
theorem dX11_count_157 : decode cX11_count 157 = .ok (.iadd, 1) := by decide +kernel
theorem dX11_count_158 : decode cX11_count 158 = .ok (.iaload, 1) := by decide +kernel
theorem dX11_count_159 : decode cX11_count 159 = .ok (.iload_n 3, 1) := by decide +kernel
theorem dX11_count_160 : decode cX11_count 160 = .ok (.ishl, 1) := by decide +kernel
theorem dX11_count_161 : decode cX11_count 161 = .ok (.ior, 1) := by decide +kernel
theorem dX11_count_162 : decode cX11_count 162 = .ok (.istore_n 2, 1) := by decide +kernel
theorem dX11_count_163 : decode cX11_count 163 = .ok (.iinc 3 1, 3) := by decide +kernel
theorem dX11_count_166 : decode cX11_count 166 = .ok (.goto (-30), 3) := by decide +kernel
theorem dX11_count_169 : decode cX11_count 169 = .ok (.iload_n 2, 1) := by decide +kernel
theorem dX11_count_170 : decode cX11_count 170 = .ok (.ireturn, 1) := by decide +kernel
theorem dX11_count_171 : decode cX11_count 171 = .ok (.aload_n 0, 1) := by decide +kernel
theorem dX11_count_172 : decode cX11_count 172 = .ok (.invokevirtual 470, 3) := by decide +kernel
theorem dX11_count_175 : decode cX11_count 175 = .ok (.ireturn, 1) := by decide +kernel
theorem dX11_count_176 : decode cX11_count 176 = .ok (.iconst 0, 1) := by decide +kernel
theorem dX11_count_177 : decode cX11_count 177 = .ok (.istore_n 3, 1) := by decide +kernel
theorem dX11_count_178 : decode cX11_count 178 = .ok (.iload_n 3, 1) := by decide +kernel
theorem dX11_count_179 : decode cX11_count 179 = .ok (.aload_n 0, 1) := by decide +kernel
theorem dX11_count_180 : decode cX11_count 180 = .ok (.getfield 134, 3) := by decide +kernel
theorem dX11_count_183 : decode cX11_count 183 = .ok (.bipush 15, 2) := by decide +kernel
theorem dX11_count_185 : decode cX11_count 185 = .ok (.iaload, 1) := by decide +kernel
theorem dX11_count_186 : decode cX11_count 186 = .ok (.if_icmp .ge 24, 3) := by decide +kernel
theorem dX11_count_189 : decode cX11_count 189 = .ok (.aload_n 0, 1) := by decide +kernel
theorem dX11_count_190 : decode cX11_count 190 = .ok (.getfield 143, 3) := by decide +kernel
theorem dX11_count_193 : decode cX11_count 193 = .ok (.iload_n 3, 1) := by decide +kernel
theorem dX11_count_194 : decode cX11_count 194 = .ok (.baload, 1) := by decide +kernel
theorem dX11_count_195 : decode cX11_count 195 = .ok (.ifCond .eq 9, 3) := by decide +kernel
theorem dX11_count_198 : decode cX11_count 198 = .ok (.iload_n 2, 1) := by decide +kernel
theorem dX11_count_199 : decode cX11_count 199 = .ok (.iconst 1, 1) := by decide +kernel
theorem dX11_count_200 : decode cX11_count 200 = .ok (.iload_n 3, 1) := by decide +kernel
theorem dX11_count_201 : decode cX11_count 201 = .ok (.ishl, 1) := by decide +kernel
theorem dX11_count_202 : decode cX11_count 202 = .ok (.ior, 1) := by decide +kernel
theorem dX11_count_203 : decode cX11_count 203 = .ok (.istore_n 2, 1) := by decide +kernel
theorem dX11_count_204 : decode cX11_count 204 = .ok (.iinc 3 1, 3) := by decide +kernel
theorem dX11_count_207 : decode cX11_count 207 = .ok (.goto (-29), 3) := by decide +kernel
theorem dX11_count_210 : decode cX11_count 210 = .ok (.iload_n 2, 1) := by decide +kernel
theorem dX11_count_211 : decode cX11_count 211 = .ok (.ireturn, 1) := by decide +kernel
theorem dX11_count_212 : decode cX11_count 212 = .ok (.aload_n 0, 1) := by decide +kernel
theorem dX11_count_213 : decode cX11_count 213 = .ok (.getfield 134, 3) := by decide +kernel
theorem dX11_count_216 : decode cX11_count 216 = .ok (.bipush 16, 2) := by decide +kernel
theorem dX11_count_218 : decode cX11_count 218 = .ok (.iaload, 1) := by decide +kernel
theorem dX11_count_219 : decode cX11_count 219 = .ok (.ireturn, 1) := by decide +kernel
theorem dX11_count_220 : decode cX11_count 220 = .ok (.aload_n 0, 1) := by decide +kernel
theorem dX11_count_221 : decode cX11_count 221 = .ok (.getfield 187, 3) := by decide +kernel
theorem dX11_count_224 : decode cX11_count 224 = .ok (.ireturn, 1) := by decide +kernel
theorem dX11_count_225 : decode cX11_count 225 = .ok (.aload_n 0, 1) := by decide +kernel
theorem dX11_count_226 : decode cX11_count 226 = .ok (.getfield 272, 3) := by decide +kernel
theorem dX11_count_229 : decode cX11_count 229 = .ok (.ireturn, 1) := by decide +kernel
theorem dX11_count_230 : decode cX11_count 230 = .ok (.aload_n 0, 1) := by decide +kernel
theorem dX11_count_231 : decode cX11_count 231 = .ok (.getfield 275, 3) := by decide +kernel
theorem dX11_count_234 : decode cX11_count 234 = .ok (.ireturn, 1) := by decide +kernel
theorem dX11_count_235 : decode cX11_count 235 = .ok (.aload_n 0, 1) := by decide +kernel
theorem dX11_count_236 : decode cX11_count 236 = .ok (.getfield 167, 3) := by decide +kernel
theorem dX11_count_239 : decode cX11_count 239 = .ok (.iconst 0, 1) := by decide +kernel
theorem dX11_count_240 : decode cX11_count 240 = .ok (.baload, 1) := by decide +kernel
theorem dX11_count_241 : decode cX11_count 241 = .ok (.ifCond .eq 7, 3) := by decide +kernel
theorem dX11_count_244 : decode cX11_count 244 = .ok (.iconst 1, 1) := by decide +kernel
theorem dX11_count_245 : decode cX11_count 245 = .ok (.goto 4, 3) := by decide +kernel
theorem dX11_count_248 : decode cX11_count 248 = .ok (.iconst 0, 1) := by decide +kernel
theorem dX11_count_249 : decode cX11_count 249 = .ok (.aload_n 0, 1) := by decide +kernel
theorem dX11_count_250 : decode cX11_count 250 = .ok (.getfield 167, 3) := by decide +kernel
theorem dX11_count_253 : decode cX11_count 253 = .ok (.iconst 1, 1) := by decide +kernel
theorem dX11_count_254 : decode cX11_count 254 = .ok (.baload, 1) := by decide +kernel
theorem dX11_count_255 : decode cX11_count 255 = .ok (.ifCond .eq 7, 3) := by decide +kernel
theorem dX11_count_258 : decode cX11_count 258 = .ok (.iconst 1, 1) := by decide +kernel
theorem dX11_count_259 : decode cX11_count 259 = .ok (.goto 4, 3) := by decide +kernel
theorem dX11_count_262 : decode cX11_count 262 = .ok (.iconst 0, 1) := by decide +kernel
theorem dX11_count_263 : decode cX11_count 263 = .ok (.iadd, 1) := by decide +kernel
theorem dX11_count_264 : decode cX11_count 264 = .ok (.aload_n 0, 1) := by decide +kernel
theorem dX11_count_265 : decode cX11_count 265 = .ok (.getfield 167, 3) := by decide +kernel
theorem dX11_count_268 : decode cX11_count 268 = .ok (.iconst 2, 1) := by decide +kernel
theorem dX11_count_269 : decode cX11_count 269 = .ok (.baload, 1) := by decide +kernel
theorem dX11_count_270 : decode cX11_count 270 = .ok (.ifCond .eq 7, 3) := by decide +kernel
theorem dX11_count_273 : decode cX11_count 273 = .ok (.iconst 1, 1) := by decide +kernel
theorem dX11_count_274 : decode cX11_count 274 = .ok (.goto 4, 3) := by decide +kernel
theorem dX11_count_277 : decode cX11_count 277 = .ok (.iconst 0, 1) := by decide +kernel
theorem dX11_count_278 : decode cX11_count 278 = .ok (.iadd, 1) := by decide +kernel
theorem dX11_count_279 : decode cX11_count 279 = .ok (.ireturn, 1) := by decide +kernel
theorem dX11_count_280 : decode cX11_count 280 = .ok (.aload_n 0, 1) := by decide +kernel
theorem dX11_count_281 : decode cX11_count 281 = .ok (.getfield 88, 3) := by decide +kernel
theorem dX11_count_284 : decode cX11_count 284 = .ok (.aload_n 0, 1) := by decide +kernel
theorem dX11_count_285 : decode cX11_count 285 = .ok (.getfield 254, 3) := by decide +kernel
theorem dX11_count_288 : decode cX11_count 288 = .ok (.iaload, 1) := by decide +kernel
theorem dX11_count_289 : decode cX11_count 289 = .ok (.ireturn, 1) := by decide +kernel
theorem dX11_count_290 : decode cX11_count 290 = .ok (.iconst 0, 1) := by decide +kernel
theorem dX11_count_291 : decode cX11_count 291 = .ok (.istore_n 3, 1) := by decide +kernel
theorem dX11_count_292 : decode cX11_count 292 = .ok (.iload_n 3, 1) := by decide +kernel
theorem dX11_count_293 : decode cX11_count 293 = .ok (.aload_n 0, 1) := by decide +kernel
theorem dX11_count_294 : decode cX11_count 294 = .ok (.getfield 49, 3) := by decide +kernel
theorem dX11_count_297 : decode cX11_count 297 = .ok (.aload_n 0, 1) := by decide +kernel
theorem dX11_count_298 : decode cX11_count 298 = .ok (.getfield 254, 3) := by decide +kernel
theorem dX11_count_301 : decode cX11_count 301 = .ok (.iaload, 1) := by decide +kernel
theorem dX11_count_302 : decode cX11_count 302 = .ok (.if_icmp .ge 35, 3) := by decide +kernel
theorem dX11_count_305 : decode cX11_count 305 = .ok (.aload_n 0, 1) := by decide +kernel
theorem dX11_count_306 : decode cX11_count 306 = .ok (.getfield 137, 3) := by decide +kernel
theorem dX11_count_309 : decode cX11_count 309 = .ok (.iload_n 3, 1) := by decide +kernel
theorem dX11_count_310 : decode cX11_count 310 = .ok (.iaload, 1) := by decide +kernel
theorem dX11_count_311 : decode cX11_count 311 = .ok (.aload_n 0, 1) := by decide +kernel
theorem dX11_count_312 : decode cX11_count 312 = .ok (.getfield 58, 3) := by decide +kernel
theorem dX11_count_315 : decode cX11_count 315 = .ok (.bipush 7, 2) := by decide +kernel
theorem dX11_count_317 : decode cX11_count 317 = .ok (.aload_n 0, 1) := by decide +kernel
theorem dX11_count_318 : decode cX11_count 318 = .ok (.getfield 254, 3) := by decide +kernel
theorem dX11_count_321 : decode cX11_count 321 = .ok (.imul, 1) := by decide +kernel
theorem dX11_count_322 : decode cX11_count 322 = .ok (.iload_n 3, 1) := by decide +kernel
theorem dX11_count_323 : decode cX11_count 323 = .ok (.iadd, 1) := by decide +kernel
theorem dX11_count_324 : decode cX11_count 324 = .ok (.iaload, 1) := by decide +kernel
theorem dX11_count_325 : decode cX11_count 325 = .ok (.if_icmp .eq 6, 3) := by decide +kernel
theorem dX11_count_328 : decode cX11_count 328 = .ok (.iinc 2 1, 3) := by decide +kernel
theorem dX11_count_331 : decode cX11_count 331 = .ok (.iinc 3 1, 3) := by decide +kernel
theorem dX11_count_334 : decode cX11_count 334 = .ok (.goto (-42), 3) := by decide +kernel
theorem dX11_count_337 : decode cX11_count 337 = .ok (.iload_n 2, 1) := by decide +kernel
theorem dX11_count_338 : decode cX11_count 338 = .ok (.ireturn, 1) := by decide +kernel
theorem dX11_count_339 : decode cX11_count 339 = .ok (.iconst 0, 1) := by decide +kernel
theorem dX11_count_340 : decode cX11_count 340 = .ok (.istore_n 3, 1) := by decide +kernel
theorem dX11_count_341 : decode cX11_count 341 = .ok (.iload_n 3, 1) := by decide +kernel
theorem dX11_count_342 : decode cX11_count 342 = .ok (.aload_n 0, 1) := by decide +kernel
theorem dX11_count_343 : decode cX11_count 343 = .ok (.getfield 134, 3) := by decide +kernel
theorem dX11_count_346 : decode cX11_count 346 = .ok (.bipush 15, 2) := by decide +kernel
theorem dX11_count_348 : decode cX11_count 348 = .ok (.iaload, 1) := by decide +kernel
theorem dX11_count_349 : decode cX11_count 349 = .ok (.if_icmp .ge 20, 3) := by decide +kernel
theorem dX11_count_352 : decode cX11_count 352 = .ok (.iload_n 2, 1) := by decide +kernel
theorem dX11_count_353 : decode cX11_count 353 = .ok (.aload_n 0, 1) := by decide +kernel
theorem dX11_count_354 : decode cX11_count 354 = .ok (.iload_n 3, 1) := by decide +kernel
theorem dX11_count_355 : decode cX11_count 355 = .ok (.invokevirtual 382, 3) := by decide +kernel
theorem dX11_count_358 : decode cX11_count 358 = .ok (.invokestatic 366, 3) := by decide +kernel
theorem dX11_count_361 : decode cX11_count 361 = .ok (.iadd, 1) := by decide +kernel
theorem dX11_count_362 : decode cX11_count 362 = .ok (.istore_n 2, 1) := by decide +kernel
theorem dX11_count_363 : decode cX11_count 363 = .ok (.iinc 3 1, 3) := by decide +kernel
theorem dX11_count_366 : decode cX11_count 366 = .ok (.goto (-25), 3) := by decide +kernel
theorem dX11_count_369 : decode cX11_count 369 = .ok (.iload_n 2, 1) := by decide +kernel
theorem dX11_count_370 : decode cX11_count 370 = .ok (.ireturn, 1) := by decide +kernel
theorem dX11_count_371 : decode cX11_count 371 = .ok (.iconst (-1), 1) := by decide +kernel
theorem dX11_count_372 : decode cX11_count 372 = .ok (.ireturn, 1) := by decide +kernel
