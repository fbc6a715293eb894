theorem dX11_init_0 : decode cX11_init 0 = .ok (.aload_n 0, 1) := by decide +kernel
theorem dX11_init_1 : decode cX11_init 1 = .ok (.invokespecial 1, 3) := by decide +kernel
theorem dX11_init_4 : decode cX11_init 4 = .ok (.aload_n 0, 1) := by decide +kernel
theorem dX11_init_5 : decode cX11_init 5 = .ok (.sipush 1600, 3) := by decide +kernel
theorem dX11_init_8 : decode cX11_init 8 = .ok (.newarray .int, 2) := by decide +kernel
theorem dX11_init_10 : decode cX11_init 10 = .ok (.putfield 7, 3) := by decide +kernel
theorem dX11_init_13 : decode cX11_init 13 = .ok (.aload_n 0, 1) := by decide +kernel
theorem dX11_init_14 : decode cX11_init 14 = .ok (.iconst (-1), 1) := by decide +kernel
theorem dX11_init_15 : decode cX11_init 15 = .ok (.putfield 13, 3) := by decide +kernel
theorem dX11_init_18 : decode cX11_init 18 = .ok (.aload_n 0, 1) := by decide +kernel
theorem dX11_init_19 : decode cX11_init 19 = .ok (.sipush 3520, 3) := by decide +kernel
theorem dX11_init_22 : decode cX11_init 22 = .ok (.newarray .int, 2) := by decide +kernel
theorem dX11_init_24 : decode cX11_init 24 = .ok (.putfield 17, 3) := by decide +kernel
theorem dX11_init_27 : decode cX11_init 27 = .ok (.aload_n 0, 1) := by decide +kernel
theorem dX11_init_28 : decode cX11_init 28 = .ok (.sipush 3520, 3) := by decide +kernel
theorem dX11_init_31 : decode cX11_init 31 = .ok (.newarray .int, 2) := by decide +kernel
theorem dX11_init_33 : decode cX11_init 33 = .ok (.putfield 20, 3) := by decide +kernel
theorem dX11_init_36 : decode cX11_init 36 = .ok (.aload_n 0, 1) := by decide +kernel
theorem dX11_init_37 : decode cX11_init 37 = .ok (.bipush 11, 2) := by decide +kernel
theorem dX11_init_39 : decode cX11_init 39 = .ok (.newarray .int, 2) := by decide +kernel
theorem dX11_init_41 : decode cX11_init 41 = .ok (.putfield 23, 3) := by decide +kernel
theorem dX11_init_44 : decode cX11_init 44 = .ok (.aload_n 0, 1) := by decide +kernel
theorem dX11_init_45 : decode cX11_init 45 = .ok (.sipush 3520, 3) := by decide +kernel
theorem dX11_init_48 : decode cX11_init 48 = .ok (.newarray .int, 2) := by decide +kernel
theorem dX11_init_50 : decode cX11_init 50 = .ok (.putfield 26, 3) := by decide +kernel
theorem dX11_init_53 : decode cX11_init 53 = .ok (.aload_n 0, 1) := by decide +kernel
theorem dX11_init_54 : decode cX11_init 54 = .ok (.sipush 3520, 3) := by decide +kernel
theorem dX11_init_57 : decode cX11_init 57 = .ok (.newarray .int, 2) := by decide +kernel
theorem dX11_init_59 : decode cX11_init 59 = .ok (.putfield 29, 3) := by decide +kernel
theorem dX11_init_62 : decode cX11_init 62 = .ok (.aload_n 0, 1) := by decide +kernel
theorem dX11_init_63 : decode cX11_init 63 = .ok (.bipush 11, 2) := by decide +kernel
theorem dX11_init_65 : decode cX11_init 65 = .ok (.newarray .int, 2) := by decide +kernel
theorem dX11_init_67 : decode cX11_init 67 = .ok (.putfield 32, 3) := by decide +kernel
theorem dX11_init_70 : decode cX11_init 70 = .ok (.aload_n 0, 1) := by decide +kernel
theorem dX11_init_71 : decode cX11_init 71 = .ok (.sipush 160, 3) := by decide +kernel
theorem dX11_init_74 : decode cX11_init 74 = .ok (.newarray .int, 2) := by decide +kernel
theorem dX11_init_76 : decode cX11_init 76 = .ok (.putfield 35, 3) := by decide +kernel
theorem dX11_init_79 : decode cX11_init 79 = .ok (.aload_n 0, 1) := by decide +kernel
theorem dX11_init_80 : decode cX11_init 80 = .ok (.bipush 64, 2) := by decide +kernel
theorem dX11_init_82 : decode cX11_init 82 = .ok (.newarray .int, 2) := by decide +kernel
theorem dX11_init_84 : decode cX11_init 84 = .ok (.putfield 38, 3) := by decide +kernel
theorem dX11_init_87 : decode cX11_init 87 = .ok (.aload_n 0, 1) := by decide +kernel
theorem dX11_init_88 : decode cX11_init 88 = .ok (.bipush 20, 2) := by decide +kernel
theorem dX11_init_90 : decode cX11_init 90 = .ok (.newarray .long, 2) := by decide +kernel
theorem dX11_init_92 : decode cX11_init 92 = .ok (.putfield 41, 3) := by decide +kernel
theorem dX11_init_95 : decode cX11_init 95 = .ok (.aload_n 0, 1) := by decide +kernel
theorem dX11_init_96 : decode cX11_init 96 = .ok (.bipush 10, 2) := by decide +kernel
theorem dX11_init_98 : decode cX11_init 98 = .ok (.newarray .int, 2) := by decide +kernel
theorem dX11_init_100 : decode cX11_init 100 = .ok (.putfield 45, 3) := by decide +kernel
theorem dX11_init_103 : decode cX11_init 103 = .ok (.aload_n 0, 1) := by decide +kernel
theorem dX11_init_104 : decode cX11_init 104 = .ok (.bipush 10, 2) := by decide +kernel
theorem dX11_init_106 : decode cX11_init 106 = .ok (.newarray .int, 2) := by decide +kernel
theorem dX11_init_108 : decode cX11_init 108 = .ok (.putfield 48, 3) := by decide +kernel
theorem dX11_init_111 : decode cX11_init 111 = .ok (.aload_n 0, 1) := by decide +kernel
theorem dX11_init_112 : decode cX11_init 112 = .ok (.bipush 10, 2) := by decide +kernel
theorem dX11_init_114 : decode cX11_init 114 = .ok (.newarray .int, 2) := by decide +kernel
theorem dX11_init_116 : decode cX11_init 116 = .ok (.putfield 51, 3) := by decide +kernel
theorem dX11_init_119 : decode cX11_init 119 = .ok (.aload_n 0, 1) := by decide +kernel
theorem dX11_init_120 : decode cX11_init 120 = .ok (.bipush 10, 2) := by decide +kernel
theorem dX11_init_122 : decode cX11_init 122 = .ok (.newarray .int, 2) := by decide +kernel
theorem dX11_init_124 : decode cX11_init 124 = .ok (.putfield 54, 3) := by decide +kernel
theorem dX11_init_127 : decode cX11_init 127 = .ok (.aload_n 0, 1) := by decide +kernel
theorem dX11_init_128 : decode cX11_init 128 = .ok (.bipush 10, 2) := by decide +kernel
theorem dX11_init_130 : decode cX11_init 130 = .ok (.newarray .int, 2) := by decide +kernel
theorem dX11_init_132 : decode cX11_init 132 = .ok (.putfield 57, 3) := by decide +kernel
theorem dX11_init_135 : decode cX11_init 135 = .ok (.aload_n 0, 1) := by decide +kernel
theorem dX11_init_136 : decode cX11_init 136 = .ok (.iconst 4, 1) := by decide +kernel
theorem dX11_init_137 : decode cX11_init 137 = .ok (.newarray .int, 2) := by decide +kernel
theorem dX11_init_139 : decode cX11_init 139 = .ok (.putfield 60, 3) := by decide +kernel
theorem dX11_init_142 : decode cX11_init 142 = .ok (.aload_n 0, 1) := by decide +kernel
theorem dX11_init_143 : decode cX11_init 143 = .ok (.iconst 4, 1) := by decide +kernel
theorem dX11_init_144 : decode cX11_init 144 = .ok (.newarray .int, 2) := by decide +kernel
theorem dX11_init_146 : decode cX11_init 146 = .ok (.putfield 63, 3) := by decide +kernel
theorem dX11_init_149 : decode cX11_init 149 = .ok (.aload_n 0, 1) := by decide +kernel
theorem dX11_init_150 : decode cX11_init 150 = .ok (.iconst 4, 1) := by decide +kernel
theorem dX11_init_151 : decode cX11_init 151 = .ok (.newarray .int, 2) := by decide +kernel
theorem dX11_init_153 : decode cX11_init 153 = .ok (.putfield 66, 3) := by decide +kernel
theorem dX11_init_156 : decode cX11_init 156 = .ok (.aload_n 0, 1) := by decide +kernel
theorem dX11_init_157 : decode cX11_init 157 = .ok (.iconst 4, 1) := by decide +kernel
theorem dX11_init_158 : decode cX11_init 158 = .ok (.newarray .int, 2) := by decide +kernel
theorem dX11_init_160 : decode cX11_init 160 = .ok (.putfield 69, 3) := by decide +kernel
theorem dX11_init_163 : decode cX11_init 163 = .ok (.aload_n 0, 1) := by decide +kernel
theorem dX11_init_164 : decode cX11_init 164 = .ok (.iconst 4, 1) := by decide +kernel
theorem dX11_init_165 : decode cX11_init 165 = .ok (.newarray .int, 2) := by decide +kernel
theorem dX11_init_167 : decode cX11_init 167 = .ok (.putfield 72, 3) := by decide +kernel
theorem dX11_init_170 : decode cX11_init 170 = .ok (.aload_n 0, 1) := by decide +kernel
theorem dX11_init_171 : decode cX11_init 171 = .ok (.iconst 4, 1) := by decide +kernel
theorem dX11_init_172 : decode cX11_init 172 = .ok (.newarray .int, 2) := by decide +kernel
theorem dX11_init_174 : decode cX11_init 174 = .ok (.putfield 75, 3) := by decide +kernel
theorem dX11_init_177 : decode cX11_init 177 = .ok (.aload_n 0, 1) := by decide +kernel
theorem dX11_init_178 : decode cX11_init 178 = .ok (.bipush 10, 2) := by decide +kernel
theorem dX11_init_180 : decode cX11_init 180 = .ok (.newarray .boolean, 2) := by decide +kernel
theorem dX11_init_182 : decode cX11_init 182 = .ok (.putfield 78, 3) := by decide +kernel
theorem dX11_init_185 : decode cX11_init 185 = .ok (.aload_n 0, 1) := by decide +kernel
theorem dX11_init_186 : decode cX11_init 186 = .ok (.bipush 10, 2) := by decide +kernel
theorem dX11_init_188 : decode cX11_init 188 = .ok (.newarray .int, 2) := by decide +kernel
theorem dX11_init_190 : decode cX11_init 190 = .ok (.putfield 82, 3) := by decide +kernel
theorem dX11_init_193 : decode cX11_init 193 = .ok (.aload_n 0, 1) := by decide +kernel
theorem dX11_init_194 : decode cX11_init 194 = .ok (.bipush 10, 2) := by decide +kernel
theorem dX11_init_196 : decode cX11_init 196 = .ok (.newarray .int, 2) := by decide +kernel
theorem dX11_init_198 : decode cX11_init 198 = .ok (.putfield 85, 3) := by decide +kernel
theorem dX11_init_201 : decode cX11_init 201 = .ok (.aload_n 0, 1) := by decide +kernel
theorem dX11_init_202 : decode cX11_init 202 = .ok (.bipush 10, 2) := by decide +kernel
theorem dX11_init_204 : decode cX11_init 204 = .ok (.newarray .int, 2) := by decide +kernel
theorem dX11_init_206 : decode cX11_init 206 = .ok (.putfield 88, 3) := by decide +kernel
theorem dX11_init_209 : decode cX11_init 209 = .ok (.aload_n 0, 1) := by decide +kernel
theorem dX11_init_210 : decode cX11_init 210 = .ok (.bipush 10, 2) := by decide +kernel
theorem dX11_init_212 : decode cX11_init 212 = .ok (.newarray .int, 2) := by decide +kernel
theorem dX11_init_214 : decode cX11_init 214 = .ok (.putfield 91, 3) := by decide +kernel
theorem dX11_init_217 : decode cX11_init 217 = .ok (.aload_n 0, 1) := by decide +kernel
theorem dX11_init_218 : decode cX11_init 218 = .ok (.bipush 10, 2) := by decide +kernel
theorem dX11_init_220 : decode cX11_init 220 = .ok (.newarray .int, 2) := by decide +kernel
theorem dX11_init_222 : decode cX11_init 222 = .ok (.putfield 94, 3) := by decide +kernel
theorem dX11_init_225 : decode cX11_init 225 = .ok (.aload_n 0, 1) := by decide +kernel
theorem dX11_init_226 : decode cX11_init 226 = .ok (.iconst 4, 1) := by decide +kernel
theorem dX11_init_227 : decode cX11_init 227 = .ok (.newarray .int, 2) := by decide +kernel
theorem dX11_init_229 : decode cX11_init 229 = .ok (.putfield 97, 3) := by decide +kernel
theorem dX11_init_232 : decode cX11_init 232 = .ok (.aload_n 0, 1) := by decide +kernel
theorem dX11_init_233 : decode cX11_init 233 = .ok (.iconst 4, 1) := by decide +kernel
theorem dX11_init_234 : decode cX11_init 234 = .ok (.newarray .int, 2) := by decide +kernel
theorem dX11_init_236 : decode cX11_init 236 = .ok (.putfield 100, 3) := by decide +kernel
theorem dX11_init_239 : decode cX11_init 239 = .ok (.aload_n 0, 1) := by decide +kernel
theorem dX11_init_240 : decode cX11_init 240 = .ok (.iconst 4, 1) := by decide +kernel
theorem dX11_init_241 : decode cX11_init 241 = .ok (.newarray .int, 2) := by decide +kernel
theorem dX11_init_243 : decode cX11_init 243 = .ok (.putfield 103, 3) := by decide +kernel
theorem dX11_init_246 : decode cX11_init 246 = .ok (.aload_n 0, 1) := by decide +kernel
theorem dX11_init_247 : decode cX11_init 247 = .ok (.iconst 4, 1) := by decide +kernel
theorem dX11_init_248 : decode cX11_init 248 = .ok (.newarray .int, 2) := by decide +kernel
theorem dX11_init_250 : decode cX11_init 250 = .ok (.putfield 106, 3) := by decide +kernel
theorem dX11_init_253 : decode cX11_init 253 = .ok (.aload_n 0, 1) := by decide +kernel
theorem dX11_init_254 : decode cX11_init 254 = .ok (.iconst 4, 1) := by decide +kernel
theorem dX11_init_255 : decode cX11_init 255 = .ok (.newarray .int, 2) := by decide +kernel
theorem dX11_init_257 : decode cX11_init 257 = .ok (.putfield 109, 3) := by decide +kernel
theorem dX11_init_260 : decode cX11_init 260 = .ok (.aload_n 0, 1) := by decide +kernel
theorem dX11_init_261 : decode cX11_init 261 = .ok (.iconst 4, 1) := by decide +kernel
theorem dX11_init_262 : decode cX11_init 262 = .ok (.newarray .int, 2) := by decide +kernel
theorem dX11_init_264 : decode cX11_init 264 = .ok (.putfield 112, 3) := by decide +kernel
theorem dX11_init_267 : decode cX11_init 267 = .ok (.aload_n 0, 1) := by decide +kernel
theorem dX11_init_268 : decode cX11_init 268 = .ok (.bipush 10, 2) := by decide +kernel
theorem dX11_init_270 : decode cX11_init 270 = .ok (.newarray .boolean, 2) := by decide +kernel
theorem dX11_init_272 : decode cX11_init 272 = .ok (.putfield 115, 3) := by decide +kernel
theorem dX11_init_275 : decode cX11_init 275 = .ok (.aload_n 0, 1) := by decide +kernel
theorem dX11_init_276 : decode cX11_init 276 = .ok (.bipush 10, 2) := by decide +kernel
theorem dX11_init_278 : decode cX11_init 278 = .ok (.putfield 118, 3) := by decide +kernel
theorem dX11_init_281 : decode cX11_init 281 = .ok (.aload_n 0, 1) := by decide +kernel
theorem dX11_init_282 : decode cX11_init 282 = .ok (.sipush 128, 3) := by decide +kernel
theorem dX11_init_285 : decode cX11_init 285 = .ok (.newarray .int, 2) := by decide +kernel
theorem dX11_init_287 : decode cX11_init 287 = .ok (.putfield 121, 3) := by decide +kernel
theorem dX11_init_290 : decode cX11_init 290 = .ok (.aload_n 0, 1) := by decide +kernel
theorem dX11_init_291 : decode cX11_init 291 = .ok (.sipush 128, 3) := by decide +kernel
theorem dX11_init_294 : decode cX11_init 294 = .ok (.newarray .int, 2) := by decide +kernel
theorem dX11_init_296 : decode cX11_init 296 = .ok (.putfield 124, 3) := by decide +kernel
theorem dX11_init_299 : decode cX11_init 299 = .ok (.aload_n 0, 1) := by decide +kernel
theorem dX11_init_300 : decode cX11_init 300 = .ok (.sipush 5120, 3) := by decide +kernel
theorem dX11_init_303 : decode cX11_init 303 = .ok (.newarray .int, 2) := by decide +kernel
theorem dX11_init_305 : decode cX11_init 305 = .ok (.putfield 127, 3) := by decide +kernel
theorem dX11_init_308 : decode cX11_init 308 = .ok (.aload_n 0, 1) := by decide +kernel
theorem dX11_init_309 : decode cX11_init 309 = .ok (.sipush 2048, 3) := by decide +kernel
theorem dX11_init_312 : decode cX11_init 312 = .ok (.newarray .int, 2) := by decide +kernel
theorem dX11_init_314 : decode cX11_init 314 = .ok (.putfield 130, 3) := by decide +kernel
theorem dX11_init_317 : decode cX11_init 317 = .ok (.aload_n 0, 1) := by decide +kernel
theorem dX11_init_318 : decode cX11_init 318 = .ok (.bipush 16, 2) := by decide +kernel
theorem dX11_init_320 : decode cX11_init 320 = .ok (.newarray .int, 2) := by decide +kernel
theorem dX11_init_322 : decode cX11_init 322 = .ok (.putfield 133, 3) := by decide +kernel
theorem dX11_init_325 : decode cX11_init 325 = .ok (.aload_n 0, 1) := by decide +kernel
theorem dX11_init_326 : decode cX11_init 326 = .ok (.bipush 16, 2) := by decide +kernel
theorem dX11_init_328 : decode cX11_init 328 = .ok (.newarray .int, 2) := by decide +kernel
theorem dX11_init_330 : decode cX11_init 330 = .ok (.putfield 136, 3) := by decide +kernel
theorem dX11_init_333 : decode cX11_init 333 = .ok (.aload_n 0, 1) := by decide +kernel
theorem dX11_init_334 : decode cX11_init 334 = .ok (.bipush 16, 2) := by decide +kernel
theorem dX11_init_336 : decode cX11_init 336 = .ok (.newarray .int, 2) := by decide +kernel
theorem dX11_init_338 : decode cX11_init 338 = .ok (.putfield 139, 3) := by decide +kernel
theorem dX11_init_341 : decode cX11_init 341 = .ok (.aload_n 0, 1) := by decide +kernel
theorem dX11_init_342 : decode cX11_init 342 = .ok (.bipush 16, 2) := by decide +kernel
theorem dX11_init_344 : decode cX11_init 344 = .ok (.newarray .int, 2) := by decide +kernel
theorem dX11_init_346 : decode cX11_init 346 = .ok (.putfield 142, 3) := by decide +kernel
theorem dX11_init_349 : decode cX11_init 349 = .ok (.aload_n 0, 1) := by decide +kernel
theorem dX11_init_350 : decode cX11_init 350 = .ok (.bipush 16, 2) := by decide +kernel
theorem dX11_init_352 : decode cX11_init 352 = .ok (.newarray .int, 2) := by decide +kernel
theorem dX11_init_354 : decode cX11_init 354 = .ok (.putfield 145, 3) := by decide +kernel
theorem dX11_init_357 : decode cX11_init 357 = .ok (.aload_n 0, 1) := by decide +kernel
theorem dX11_init_358 : decode cX11_init 358 = .ok (.bipush 16, 2) := by decide +kernel
theorem dX11_init_360 : decode cX11_init 360 = .ok (.newarray .int, 2) := by decide +kernel
theorem dX11_init_362 : decode cX11_init 362 = .ok (.putfield 148, 3) := by decide +kernel
theorem dX11_init_365 : decode cX11_init 365 = .ok (.aload_n 0, 1) := by decide +kernel
theorem dX11_init_366 : decode cX11_init 366 = .ok (.iconst 4, 1) := by decide +kernel
theorem dX11_init_367 : decode cX11_init 367 = .ok (.newarray .int, 2) := by decide +kernel
theorem dX11_init_369 : decode cX11_init 369 = .ok (.putfield 151, 3) := by decide +kernel
theorem dX11_init_372 : decode cX11_init 372 = .ok (.aload_n 0, 1) := by decide +kernel
theorem dX11_init_373 : decode cX11_init 373 = .ok (.iconst 4, 1) := by decide +kernel
theorem dX11_init_374 : decode cX11_init 374 = .ok (.newarray .int, 2) := by decide +kernel
theorem dX11_init_376 : decode cX11_init 376 = .ok (.putfield 154, 3) := by decide +kernel
theorem dX11_init_379 : decode cX11_init 379 = .ok (.aload_n 0, 1) := by decide +kernel
theorem dX11_init_380 : decode cX11_init 380 = .ok (.bipush 40, 2) := by decide +kernel
theorem dX11_init_382 : decode cX11_init 382 = .ok (.newarray .int, 2) := by decide +kernel
theorem dX11_init_384 : decode cX11_init 384 = .ok (.putfield 157, 3) := by decide +kernel
theorem dX11_init_387 : decode cX11_init 387 = .ok (.aload_n 0, 1) := by decide +kernel
theorem dX11_init_388 : decode cX11_init 388 = .ok (.bipush 36, 2) := by decide +kernel
theorem dX11_init_390 : decode cX11_init 390 = .ok (.newarray .int, 2) := by decide +kernel
theorem dX11_init_392 : decode cX11_init 392 = .ok (.putfield 160, 3) := by decide +kernel
theorem dX11_init_395 : decode cX11_init 395 = .ok (.aload_n 0, 1) := by decide +kernel
theorem dX11_init_396 : decode cX11_init 396 = .ok (.bipush 30, 2) := by decide +kernel
theorem dX11_init_398 : decode cX11_init 398 = .ok (.newarray .int, 2) := by decide +kernel
theorem dX11_init_400 : decode cX11_init 400 = .ok (.putfield 163, 3) := by decide +kernel
theorem dX11_init_403 : decode cX11_init 403 = .ok (.aload_n 0, 1) := by decide +kernel
theorem dX11_init_404 : decode cX11_init 404 = .ok (.bipush 30, 2) := by decide +kernel
theorem dX11_init_406 : decode cX11_init 406 = .ok (.newarray .int, 2) := by decide +kernel
theorem dX11_init_408 : decode cX11_init 408 = .ok (.putfield 166, 3) := by decide +kernel
theorem dX11_init_411 : decode cX11_init 411 = .ok (.aload_n 0, 1) := by decide +kernel
theorem dX11_init_412 : decode cX11_init 412 = .ok (.bipush 30, 2) := by decide +kernel
theorem dX11_init_414 : decode cX11_init 414 = .ok (.newarray .int, 2) := by decide +kernel
theorem dX11_init_416 : decode cX11_init 416 = .ok (.putfield 169, 3) := by decide +kernel
theorem dX11_init_419 : decode cX11_init 419 = .ok (.aload_n 0, 1) := by decide +kernel
theorem dX11_init_420 : decode cX11_init 420 = .ok (.bipush 30, 2) := by decide +kernel
theorem dX11_init_422 : decode cX11_init 422 = .ok (.newarray .int, 2) := by decide +kernel
theorem dX11_init_424 : decode cX11_init 424 = .ok (.putfield 172, 3) := by decide +kernel
theorem dX11_init_427 : decode cX11_init 427 = .ok (.aload_n 0, 1) := by decide +kernel
theorem dX11_init_428 : decode cX11_init 428 = .ok (.bipush 30, 2) := by decide +kernel
theorem dX11_init_430 : decode cX11_init 430 = .ok (.newarray .int, 2) := by decide +kernel
theorem dX11_init_432 : decode cX11_init 432 = .ok (.putfield 175, 3) := by decide +kernel
theorem dX11_init_435 : decode cX11_init 435 = .ok (.aload_n 0, 1) := by decide +kernel
theorem dX11_init_436 : decode cX11_init 436 = .ok (.iconst 3, 1) := by decide +kernel
theorem dX11_init_437 : decode cX11_init 437 = .ok (.newarray .boolean, 2) := by decide +kernel
theorem dX11_init_439 : decode cX11_init 439 = .ok (.putfield 178, 3) := by decide +kernel
theorem dX11_init_442 : decode cX11_init 442 = .ok (.aload_n 0, 1) := by decide +kernel
theorem dX11_init_443 : decode cX11_init 443 = .ok (.sipush 384, 3) := by decide +kernel
theorem dX11_init_446 : decode cX11_init 446 = .ok (.newarray .int, 2) := by decide +kernel
theorem dX11_init_448 : decode cX11_init 448 = .ok (.putfield 181, 3) := by decide +kernel
theorem dX11_init_451 : decode cX11_init 451 = .ok (.return_, 1) := by decide +kernel
theorem dX11_feed_0 : decode cX11_feed 0 = .ok (.aload_n 0, 1) := by decide +kernel
theorem dX11_feed_1 : decode cX11_feed 1 = .ok (.getfield 184, 3) := by decide +kernel
theorem dX11_feed_4 : decode cX11_feed 4 = .ok (.bipush 20, 2) := by decide +kernel
theorem dX11_feed_6 : decode cX11_feed 6 = .ok (.iadd, 1) := by decide +kernel
theorem dX11_feed_7 : decode cX11_feed 7 = .ok (.sipush 1600, 3) := by decide +kernel
theorem dX11_feed_10 : decode cX11_feed 10 = .ok (.if_icmp .le 5, 3) := by decide +kernel
theorem dX11_feed_13 : decode cX11_feed 13 = .ok (.iconst (-1), 1) := by decide +kernel
theorem dX11_feed_14 : decode cX11_feed 14 = .ok (.ireturn, 1) := by decide +kernel
theorem dX11_feed_15 : decode cX11_feed 15 = .ok (.aload_n 0, 1) := by decide +kernel
theorem dX11_feed_16 : decode cX11_feed 16 = .ok (.iload_n 1, 1) := by decide +kernel
theorem dX11_feed_17 : decode cX11_feed 17 = .ok (.invokevirtual 187, 3) := by decide +kernel
theorem dX11_feed_20 : decode cX11_feed 20 = .ok (.aload_n 0, 1) := by decide +kernel
theorem dX11_feed_21 : decode cX11_feed 21 = .ok (.iload_n 2, 1) := by decide +kernel
theorem dX11_feed_22 : decode cX11_feed 22 = .ok (.invokevirtual 187, 3) := by decide +kernel
theorem dX11_feed_25 : decode cX11_feed 25 = .ok (.aload_n 0, 1) := by decide +kernel
theorem dX11_feed_26 : decode cX11_feed 26 = .ok (.iload_n 3, 1) := by decide +kernel
theorem dX11_feed_27 : decode cX11_feed 27 = .ok (.invokevirtual 187, 3) := by decide +kernel
theorem dX11_feed_30 : decode cX11_feed 30 = .ok (.aload_n 0, 1) := by decide +kernel
theorem dX11_feed_31 : decode cX11_feed 31 = .ok (.iload 4, 2) := by decide +kernel
theorem dX11_feed_33 : decode cX11_feed 33 = .ok (.invokevirtual 187, 3) := by decide +kernel
theorem dX11_feed_36 : decode cX11_feed 36 = .ok (.aload_n 0, 1) := by decide +kernel
theorem dX11_feed_37 : decode cX11_feed 37 = .ok (.iload 5, 2) := by decide +kernel
theorem dX11_feed_39 : decode cX11_feed 39 = .ok (.invokevirtual 187, 3) := by decide +kernel
theorem dX11_feed_42 : decode cX11_feed 42 = .ok (.aload_n 0, 1) := by decide +kernel
theorem dX11_feed_43 : decode cX11_feed 43 = .ok (.getfield 184, 3) := by decide +kernel
theorem dX11_feed_46 : decode cX11_feed 46 = .ok (.ireturn, 1) := by decide +kernel
theorem dX11_four_0 : decode cX11_four 0 = .ok (.bipush 24, 2) := by decide +kernel
theorem dX11_four_2 : decode cX11_four 2 = .ok (.istore_n 2, 1) := by decide +kernel
theorem dX11_four_3 : decode cX11_four 3 = .ok (.iload_n 2, 1) := by decide +kernel
theorem dX11_four_4 : decode cX11_four 4 = .ok (.ifCond .lt 35, 3) := by decide +kernel
theorem dX11_four_7 : decode cX11_four 7 = .ok (.aload_n 0, 1) := by decide +kernel
theorem dX11_four_8 : decode cX11_four 8 = .ok (.getfield 7, 3) := by decide +kernel
theorem dX11_four_11 : decode cX11_four 11 = .ok (.aload_n 0, 1) := by decide +kernel
theorem dX11_four_12 : decode cX11_four 12 = .ok (.getfield 184, 3) := by decide +kernel
theorem dX11_four_15 : decode cX11_four 15 = .ok (.iload_n 1, 1) := by decide +kernel
theorem dX11_four_16 : decode cX11_four 16 = .ok (.iload_n 2, 1) := by decide +kernel
theorem dX11_four_17 : decode cX11_four 17 = .ok (.ishr, 1) := by decide +kernel
theorem dX11_four_18 : decode cX11_four 18 = .ok (.sipush 255, 3) := by decide +kernel
theorem dX11_four_21 : decode cX11_four 21 = .ok (.iand, 1) := by decide +kernel
theorem dX11_four_22 : decode cX11_four 22 = .ok (.iastore, 1) := by decide +kernel
theorem dX11_four_23 : decode cX11_four 23 = .ok (.aload_n 0, 1) := by decide +kernel
theorem dX11_four_24 : decode cX11_four 24 = .ok (.dup, 1) := by decide +kernel
theorem dX11_four_25 : decode cX11_four 25 = .ok (.getfield 184, 3) := by decide +kernel
theorem dX11_four_28 : decode cX11_four 28 = .ok (.iconst 1, 1) := by decide +kernel
theorem dX11_four_29 : decode cX11_four 29 = .ok (.iadd, 1) := by decide +kernel
theorem dX11_four_30 : decode cX11_four 30 = .ok (.putfield 184, 3) := by decide +kernel
theorem dX11_four_33 : decode cX11_four 33 = .ok (.iinc 2 (-8), 3) := by decide +kernel
theorem dX11_four_36 : decode cX11_four 36 = .ok (.goto (-33), 3) := by decide +kernel
theorem dX11_four_39 : decode cX11_four 39 = .ok (.return_, 1) := by decide +kernel
theorem dX11_end_0 : decode cX11_end 0 = .ok (.iload_n 1, 1) := by decide +kernel
theorem dX11_end_1 : decode cX11_end 1 = .ok (.ifCond .lt 11, 3) := by decide +kernel
theorem dX11_end_4 : decode cX11_end 4 = .ok (.iload_n 1, 1) := by decide +kernel
theorem dX11_end_5 : decode cX11_end 5 = .ok (.aload_n 0, 1) := by decide +kernel
theorem dX11_end_6 : decode cX11_end 6 = .ok (.getfield 184, 3) := by decide +kernel
theorem dX11_end_9 : decode cX11_end 9 = .ok (.if_icmp .le 5, 3) := by decide +kernel
theorem dX11_end_12 : decode cX11_end 12 = .ok (.iconst (-1), 1) := by decide +kernel
theorem dX11_end_13 : decode cX11_end 13 = .ok (.ireturn, 1) := by decide +kernel
theorem dX11_end_14 : decode cX11_end 14 = .ok (.aload_n 0, 1) := by decide +kernel
theorem dX11_end_15 : decode cX11_end 15 = .ok (.iload_n 1, 1) := by decide +kernel
theorem dX11_end_16 : decode cX11_end 16 = .ok (.putfield 184, 3) := by decide +kernel
theorem dX11_end_19 : decode cX11_end 19 = .ok (.iload_n 1, 1) := by decide +kernel
theorem dX11_end_20 : decode cX11_end 20 = .ok (.ireturn, 1) := by decide +kernel
theorem dX11_here_0 : decode cX11_here 0 = .ok (.aload_n 0, 1) := by decide +kernel
theorem dX11_here_1 : decode cX11_here 1 = .ok (.getfield 191, 3) := by decide +kernel
theorem dX11_here_4 : decode cX11_here 4 = .ok (.iload_n 1, 1) := by decide +kernel
theorem dX11_here_5 : decode cX11_here 5 = .ok (.iadd, 1) := by decide +kernel
theorem dX11_here_6 : decode cX11_here 6 = .ok (.aload_n 0, 1) := by decide +kernel
theorem dX11_here_7 : decode cX11_here 7 = .ok (.getfield 194, 3) := by decide +kernel
theorem dX11_here_10 : decode cX11_here 10 = .ok (.if_icmp .ge 17, 3) := by decide +kernel
theorem dX11_here_13 : decode cX11_here 13 = .ok (.aload_n 0, 1) := by decide +kernel
theorem dX11_here_14 : decode cX11_here 14 = .ok (.getfield 7, 3) := by decide +kernel
theorem dX11_here_17 : decode cX11_here 17 = .ok (.aload_n 0, 1) := by decide +kernel
theorem dX11_here_18 : decode cX11_here 18 = .ok (.getfield 191, 3) := by decide +kernel
theorem dX11_here_21 : decode cX11_here 21 = .ok (.iload_n 1, 1) := by decide +kernel
theorem dX11_here_22 : decode cX11_here 22 = .ok (.iadd, 1) := by decide +kernel
theorem dX11_here_23 : decode cX11_here 23 = .ok (.iaload, 1) := by decide +kernel
theorem dX11_here_24 : decode cX11_here 24 = .ok (.goto 4, 3) := by decide +kernel
theorem dX11_here_27 : decode cX11_here 27 = .ok (.iconst (-1), 1) := by decide +kernel
theorem dX11_here_28 : decode cX11_here 28 = .ok (.ireturn, 1) := by decide +kernel
theorem dX11_isLetter_0 : decode cX11_isLetter 0 = .ok (.iload_n 0, 1) := by decide +kernel
theorem dX11_isLetter_1 : decode cX11_isLetter 1 = .ok (.bipush 97, 2) := by decide +kernel
theorem dX11_isLetter_3 : decode cX11_isLetter 3 = .ok (.if_icmp .lt 13, 3) := by decide +kernel
theorem dX11_isLetter_6 : decode cX11_isLetter 6 = .ok (.iload_n 0, 1) := by decide +kernel
theorem dX11_isLetter_7 : decode cX11_isLetter 7 = .ok (.bipush 122, 2) := by decide +kernel
theorem dX11_isLetter_9 : decode cX11_isLetter 9 = .ok (.if_icmp .gt 7, 3) := by decide +kernel
theorem dX11_isLetter_12 : decode cX11_isLetter 12 = .ok (.iconst 1, 1) := by decide +kernel
theorem dX11_isLetter_13 : decode cX11_isLetter 13 = .ok (.goto 4, 3) := by decide +kernel
theorem dX11_isLetter_16 : decode cX11_isLetter 16 = .ok (.iconst 0, 1) := by decide +kernel
theorem dX11_isLetter_17 : decode cX11_isLetter 17 = .ok (.ireturn, 1) := by decide +kernel
theorem dX11_isDigit_0 : decode cX11_isDigit 0 = .ok (.iload_n 0, 1) := by decide +kernel
theorem dX11_isDigit_1 : decode cX11_isDigit 1 = .ok (.bipush 48, 2) := by decide +kernel
theorem dX11_isDigit_3 : decode cX11_isDigit 3 = .ok (.if_icmp .lt 13, 3) := by decide +kernel
theorem dX11_isDigit_6 : decode cX11_isDigit 6 = .ok (.iload_n 0, 1) := by decide +kernel
theorem dX11_isDigit_7 : decode cX11_isDigit 7 = .ok (.bipush 57, 2) := by decide +kernel
theorem dX11_isDigit_9 : decode cX11_isDigit 9 = .ok (.if_icmp .gt 7, 3) := by decide +kernel
theorem dX11_isDigit_12 : decode cX11_isDigit 12 = .ok (.iconst 1, 1) := by decide +kernel
theorem dX11_isDigit_13 : decode cX11_isDigit 13 = .ok (.goto 4, 3) := by decide +kernel
theorem dX11_isDigit_16 : decode cX11_isDigit 16 = .ok (.iconst 0, 1) := by decide +kernel
theorem dX11_isDigit_17 : decode cX11_isDigit 17 = .ok (.ireturn, 1) := by decide +kernel
theorem dX11_isSign_0 : decode cX11_isSign 0 = .ok (.iload_n 0, 1) := by decide +kernel
theorem dX11_isSign_1 : decode cX11_isSign 1 = .ok (.bipush 59, 2) := by decide +kernel
theorem dX11_isSign_3 : decode cX11_isSign 3 = .ok (.if_icmp .eq 63, 3) := by decide +kernel
theorem dX11_isSign_6 : decode cX11_isSign 6 = .ok (.iload_n 0, 1) := by decide +kernel
theorem dX11_isSign_7 : decode cX11_isSign 7 = .ok (.bipush 40, 2) := by decide +kernel
theorem dX11_isSign_9 : decode cX11_isSign 9 = .ok (.if_icmp .eq 57, 3) := by decide +kernel
theorem dX11_isSign_12 : decode cX11_isSign 12 = .ok (.iload_n 0, 1) := by decide +kernel
theorem dX11_isSign_13 : decode cX11_isSign 13 = .ok (.bipush 41, 2) := by decide +kernel
theorem dX11_isSign_15 : decode cX11_isSign 15 = .ok (.if_icmp .eq 51, 3) := by decide +kernel
theorem dX11_isSign_18 : decode cX11_isSign 18 = .ok (.iload_n 0, 1) := by decide +kernel
theorem dX11_isSign_19 : decode cX11_isSign 19 = .ok (.bipush 60, 2) := by decide +kernel
theorem dX11_isSign_21 : decode cX11_isSign 21 = .ok (.if_icmp .eq 45, 3) := by decide +kernel
theorem dX11_isSign_24 : decode cX11_isSign 24 = .ok (.iload_n 0, 1) := by decide +kernel
theorem dX11_isSign_25 : decode cX11_isSign 25 = .ok (.bipush 62, 2) := by decide +kernel
theorem dX11_isSign_27 : decode cX11_isSign 27 = .ok (.if_icmp .eq 39, 3) := by decide +kernel
theorem dX11_isSign_30 : decode cX11_isSign 30 = .ok (.iload_n 0, 1) := by decide +kernel
theorem dX11_isSign_31 : decode cX11_isSign 31 = .ok (.bipush 61, 2) := by decide +kernel
theorem dX11_isSign_33 : decode cX11_isSign 33 = .ok (.if_icmp .eq 33, 3) := by decide +kernel
theorem dX11_isSign_36 : decode cX11_isSign 36 = .ok (.iload_n 0, 1) := by decide +kernel
theorem dX11_isSign_37 : decode cX11_isSign 37 = .ok (.bipush 43, 2) := by decide +kernel
theorem dX11_isSign_39 : decode cX11_isSign 39 = .ok (.if_icmp .eq 27, 3) := by decide +kernel
theorem dX11_isSign_42 : decode cX11_isSign 42 = .ok (.iload_n 0, 1) := by decide +kernel
theorem dX11_isSign_43 : decode cX11_isSign 43 = .ok (.bipush 45, 2) := by decide +kernel
theorem dX11_isSign_45 : decode cX11_isSign 45 = .ok (.if_icmp .eq 21, 3) := by decide +kernel
theorem dX11_isSign_48 : decode cX11_isSign 48 = .ok (.iload_n 0, 1) := by decide +kernel
theorem dX11_isSign_49 : decode cX11_isSign 49 = .ok (.bipush 42, 2) := by decide +kernel
theorem dX11_isSign_51 : decode cX11_isSign 51 = .ok (.if_icmp .eq 15, 3) := by decide +kernel
theorem dX11_isSign_54 : decode cX11_isSign 54 = .ok (.iload_n 0, 1) := by decide +kernel
theorem dX11_isSign_55 : decode cX11_isSign 55 = .ok (.bipush 47, 2) := by decide +kernel
theorem dX11_isSign_57 : decode cX11_isSign 57 = .ok (.if_icmp .eq 9, 3) := by decide +kernel
theorem dX11_isSign_60 : decode cX11_isSign 60 = .ok (.iload_n 0, 1) := by decide +kernel
theorem dX11_isSign_61 : decode cX11_isSign 61 = .ok (.bipush 37, 2) := by decide +kernel
theorem dX11_isSign_63 : decode cX11_isSign 63 = .ok (.if_icmp .ne 7, 3) := by decide +kernel
theorem dX11_isSign_66 : decode cX11_isSign 66 = .ok (.iconst 1, 1) := by decide +kernel
theorem dX11_isSign_67 : decode cX11_isSign 67 = .ok (.goto 4, 3) := by decide +kernel
theorem dX11_isSign_70 : decode cX11_isSign 70 = .ok (.iconst 0, 1) := by decide +kernel
theorem dX11_isSign_71 : decode cX11_isSign 71 = .ok (.ireturn, 1) := by decide +kernel
theorem dX11_token_0 : decode cX11_token 0 = .ok (.aload_n 0, 1) := by decide +kernel
theorem dX11_token_1 : decode cX11_token 1 = .ok (.iconst 0, 1) := by decide +kernel
theorem dX11_token_2 : decode cX11_token 2 = .ok (.invokevirtual 197, 3) := by decide +kernel
theorem dX11_token_5 : decode cX11_token 5 = .ok (.bipush 32, 2) := by decide +kernel
theorem dX11_token_7 : decode cX11_token 7 = .ok (.if_icmp .eq 13, 3) := by decide +kernel
theorem dX11_token_10 : decode cX11_token 10 = .ok (.aload_n 0, 1) := by decide +kernel
theorem dX11_token_11 : decode cX11_token 11 = .ok (.iconst 0, 1) := by decide +kernel
theorem dX11_token_12 : decode cX11_token 12 = .ok (.invokevirtual 197, 3) := by decide +kernel
theorem dX11_token_15 : decode cX11_token 15 = .ok (.bipush 10, 2) := by decide +kernel
theorem dX11_token_17 : decode cX11_token 17 = .ok (.if_icmp .ne 16, 3) := by decide +kernel
theorem dX11_token_20 : decode cX11_token 20 = .ok (.aload_n 0, 1) := by decide +kernel
theorem dX11_token_21 : decode cX11_token 21 = .ok (.dup, 1) := by decide +kernel
theorem dX11_token_22 : decode cX11_token 22 = .ok (.getfield 191, 3) := by decide +kernel
theorem dX11_token_25 : decode cX11_token 25 = .ok (.iconst 1, 1) := by decide +kernel
theorem dX11_token_26 : decode cX11_token 26 = .ok (.iadd, 1) := by decide +kernel
theorem dX11_token_27 : decode cX11_token 27 = .ok (.putfield 191, 3) := by decide +kernel
theorem dX11_token_30 : decode cX11_token 30 = .ok (.goto (-30), 3) := by decide +kernel
theorem dX11_token_33 : decode cX11_token 33 = .ok (.aload_n 0, 1) := by decide +kernel
theorem dX11_token_34 : decode cX11_token 34 = .ok (.aload_n 0, 1) := by decide +kernel
theorem dX11_token_35 : decode cX11_token 35 = .ok (.getfield 191, 3) := by decide +kernel
theorem dX11_token_38 : decode cX11_token 38 = .ok (.putfield 201, 3) := by decide +kernel
theorem dX11_token_41 : decode cX11_token 41 = .ok (.aload_n 0, 1) := by decide +kernel
theorem dX11_token_42 : decode cX11_token 42 = .ok (.iconst 0, 1) := by decide +kernel
theorem dX11_token_43 : decode cX11_token 43 = .ok (.invokevirtual 197, 3) := by decide +kernel
theorem dX11_token_46 : decode cX11_token 46 = .ok (.istore_n 1, 1) := by decide +kernel
theorem dX11_token_47 : decode cX11_token 47 = .ok (.iconst 0, 1) := by decide +kernel
theorem dX11_token_48 : decode cX11_token 48 = .ok (.istore_n 2, 1) := by decide +kernel
theorem dX11_token_49 : decode cX11_token 49 = .ok (.aload_n 0, 1) := by decide +kernel
theorem dX11_token_50 : decode cX11_token 50 = .ok (.lconst 0, 1) := by decide +kernel
theorem dX11_token_51 : decode cX11_token 51 = .ok (.putfield 204, 3) := by decide +kernel
theorem dX11_token_54 : decode cX11_token 54 = .ok (.aload_n 0, 1) := by decide +kernel
theorem dX11_token_55 : decode cX11_token 55 = .ok (.iconst 0, 1) := by decide +kernel
theorem dX11_token_56 : decode cX11_token 56 = .ok (.putfield 208, 3) := by decide +kernel
theorem dX11_token_59 : decode cX11_token 59 = .ok (.iload_n 1, 1) := by decide +kernel
theorem dX11_token_60 : decode cX11_token 60 = .ok (.ifCond .ge 11, 3) := by decide +kernel
theorem dX11_token_63 : decode cX11_token 63 = .ok (.aload_n 0, 1) := by decide +kernel
theorem dX11_token_64 : decode cX11_token 64 = .ok (.iconst 0, 1) := by decide +kernel
theorem dX11_token_65 : decode cX11_token 65 = .ok (.putfield 211, 3) := by decide +kernel
theorem dX11_token_68 : decode cX11_token 68 = .ok (.goto 164, 3) := by decide +kernel
theorem dX11_token_71 : decode cX11_token 71 = .ok (.iload_n 1, 1) := by decide +kernel
theorem dX11_token_72 : decode cX11_token 72 = .ok (.invokestatic 214, 3) := by decide +kernel
theorem dX11_token_75 : decode cX11_token 75 = .ok (.ifCond .eq 62, 3) := by decide +kernel
theorem dX11_token_78 : decode cX11_token 78 = .ok (.aload_n 0, 1) := by decide +kernel
theorem dX11_token_79 : decode cX11_token 79 = .ok (.iload_n 2, 1) := by decide +kernel
theorem dX11_token_80 : decode cX11_token 80 = .ok (.invokevirtual 197, 3) := by decide +kernel
theorem dX11_token_83 : decode cX11_token 83 = .ok (.invokestatic 214, 3) := by decide +kernel
theorem dX11_token_86 : decode cX11_token 86 = .ok (.ifCond .eq 33, 3) := by decide +kernel
theorem dX11_token_89 : decode cX11_token 89 = .ok (.iload_n 2, 1) := by decide +kernel
theorem dX11_token_90 : decode cX11_token 90 = .ok (.bipush 8, 2) := by decide +kernel
theorem dX11_token_92 : decode cX11_token 92 = .ok (.if_icmp .ge 21, 3) := by decide +kernel
theorem dX11_token_95 : decode cX11_token 95 = .ok (.aload_n 0, 1) := by decide +kernel
theorem dX11_token_96 : decode cX11_token 96 = .ok (.aload_n 0, 1) := by decide +kernel
theorem dX11_token_97 : decode cX11_token 97 = .ok (.getfield 204, 3) := by decide +kernel
theorem dX11_token_100 : decode cX11_token 100 = .ok (.bipush 8, 2) := by decide +kernel
theorem dX11_token_102 : decode cX11_token 102 = .ok (.lshl, 1) := by decide +kernel
theorem dX11_token_103 : decode cX11_token 103 = .ok (.aload_n 0, 1) := by decide +kernel
theorem dX11_token_104 : decode cX11_token 104 = .ok (.iload_n 2, 1) := by decide +kernel
theorem dX11_token_105 : decode cX11_token 105 = .ok (.invokevirtual 197, 3) := by decide +kernel
theorem dX11_token_108 : decode cX11_token 108 = .ok (.i2l, 1) := by decide +kernel
theorem dX11_token_109 : decode cX11_token 109 = .ok (.lor, 1) := by decide +kernel
theorem dX11_token_110 : decode cX11_token 110 = .ok (.putfield 204, 3) := by decide +kernel
theorem dX11_token_113 : decode cX11_token 113 = .ok (.iinc 2 1, 3) := by decide +kernel
theorem dX11_token_116 : decode cX11_token 116 = .ok (.goto (-38), 3) := by decide +kernel
theorem dX11_token_119 : decode cX11_token 119 = .ok (.aload_n 0, 1) := by decide +kernel
theorem dX11_token_120 : decode cX11_token 120 = .ok (.iload_n 2, 1) := by decide +kernel
theorem dX11_token_121 : decode cX11_token 121 = .ok (.bipush 8, 2) := by decide +kernel
theorem dX11_token_123 : decode cX11_token 123 = .ok (.if_icmp .le 7, 3) := by decide +kernel
theorem dX11_token_126 : decode cX11_token 126 = .ok (.iconst 3, 1) := by decide +kernel
theorem dX11_token_127 : decode cX11_token 127 = .ok (.goto 4, 3) := by decide +kernel
theorem dX11_token_130 : decode cX11_token 130 = .ok (.iconst 1, 1) := by decide +kernel
theorem dX11_token_131 : decode cX11_token 131 = .ok (.putfield 211, 3) := by decide +kernel
theorem dX11_token_134 : decode cX11_token 134 = .ok (.goto 98, 3) := by decide +kernel
theorem dX11_token_137 : decode cX11_token 137 = .ok (.iload_n 1, 1) := by decide +kernel
theorem dX11_token_138 : decode cX11_token 138 = .ok (.invokestatic 218, 3) := by decide +kernel
theorem dX11_token_141 : decode cX11_token 141 = .ok (.ifCond .eq 73, 3) := by decide +kernel
theorem dX11_token_144 : decode cX11_token 144 = .ok (.aload_n 0, 1) := by decide +kernel
theorem dX11_token_145 : decode cX11_token 145 = .ok (.iload_n 2, 1) := by decide +kernel
theorem dX11_token_146 : decode cX11_token 146 = .ok (.invokevirtual 197, 3) := by decide +kernel
theorem dX11_token_149 : decode cX11_token 149 = .ok (.invokestatic 218, 3) := by decide +kernel
theorem dX11_token_152 : decode cX11_token 152 = .ok (.ifCond .eq 34, 3) := by decide +kernel
theorem dX11_token_155 : decode cX11_token 155 = .ok (.iload_n 2, 1) := by decide +kernel
theorem dX11_token_156 : decode cX11_token 156 = .ok (.iconst 4, 1) := by decide +kernel
theorem dX11_token_157 : decode cX11_token 157 = .ok (.if_icmp .ge 23, 3) := by decide +kernel
theorem dX11_token_160 : decode cX11_token 160 = .ok (.aload_n 0, 1) := by decide +kernel
theorem dX11_token_161 : decode cX11_token 161 = .ok (.bipush 10, 2) := by decide +kernel
theorem dX11_token_163 : decode cX11_token 163 = .ok (.aload_n 0, 1) := by decide +kernel
theorem dX11_token_164 : decode cX11_token 164 = .ok (.getfield 208, 3) := by decide +kernel
theorem dX11_token_167 : decode cX11_token 167 = .ok (.imul, 1) := by decide +kernel
theorem dX11_token_168 : decode cX11_token 168 = .ok (.aload_n 0, 1) := by decide +kernel
theorem dX11_token_169 : decode cX11_token 169 = .ok (.iload_n 2, 1) := by decide +kernel
theorem dX11_token_170 : decode cX11_token 170 = .ok (.invokevirtual 197, 3) := by decide +kernel
theorem dX11_token_173 : decode cX11_token 173 = .ok (.iadd, 1) := by decide +kernel
theorem dX11_token_174 : decode cX11_token 174 = .ok (.bipush 48, 2) := by decide +kernel
theorem dX11_token_176 : decode cX11_token 176 = .ok (.isub, 1) := by decide +kernel
theorem dX11_token_177 : decode cX11_token 177 = .ok (.putfield 208, 3) := by decide +kernel
theorem dX11_token_180 : decode cX11_token 180 = .ok (.iinc 2 1, 3) := by decide +kernel
theorem dX11_token_183 : decode cX11_token 183 = .ok (.goto (-39), 3) := by decide +kernel
theorem dX11_token_186 : decode cX11_token 186 = .ok (.aload_n 0, 1) := by decide +kernel
theorem dX11_token_187 : decode cX11_token 187 = .ok (.iload_n 2, 1) := by decide +kernel
theorem dX11_token_188 : decode cX11_token 188 = .ok (.iconst 4, 1) := by decide +kernel
theorem dX11_token_189 : decode cX11_token 189 = .ok (.if_icmp .gt 14, 3) := by decide +kernel
theorem dX11_token_192 : decode cX11_token 192 = .ok (.aload_n 0, 1) := by decide +kernel
theorem dX11_token_193 : decode cX11_token 193 = .ok (.iload_n 2, 1) := by decide +kernel
theorem dX11_token_194 : decode cX11_token 194 = .ok (.invokevirtual 197, 3) := by decide +kernel
theorem dX11_token_197 : decode cX11_token 197 = .ok (.invokestatic 214, 3) := by decide +kernel
theorem dX11_token_200 : decode cX11_token 200 = .ok (.ifCond .eq 7, 3) := by decide +kernel
theorem dX11_token_203 : decode cX11_token 203 = .ok (.iconst 3, 1) := by decide +kernel
theorem dX11_token_204 : decode cX11_token 204 = .ok (.goto 4, 3) := by decide +kernel
theorem dX11_token_207 : decode cX11_token 207 = .ok (.iconst 2, 1) := by decide +kernel
theorem dX11_token_208 : decode cX11_token 208 = .ok (.putfield 211, 3) := by decide +kernel
theorem dX11_token_211 : decode cX11_token 211 = .ok (.goto 21, 3) := by decide +kernel
theorem dX11_token_214 : decode cX11_token 214 = .ok (.iconst 1, 1) := by decide +kernel
theorem dX11_token_215 : decode cX11_token 215 = .ok (.istore_n 2, 1) := by decide +kernel
theorem dX11_token_216 : decode cX11_token 216 = .ok (.aload_n 0, 1) := by decide +kernel
theorem dX11_token_217 : decode cX11_token 217 = .ok (.iload_n 1, 1) := by decide +kernel
theorem dX11_token_218 : decode cX11_token 218 = .ok (.invokestatic 221, 3) := by decide +kernel
theorem dX11_token_221 : decode cX11_token 221 = .ok (.ifCond .eq 7, 3) := by decide +kernel
theorem dX11_token_224 : decode cX11_token 224 = .ok (.iload_n 1, 1) := by decide +kernel
theorem dX11_token_225 : decode cX11_token 225 = .ok (.goto 4, 3) := by decide +kernel
theorem dX11_token_228 : decode cX11_token 228 = .ok (.iconst 3, 1) := by decide +kernel
theorem dX11_token_229 : decode cX11_token 229 = .ok (.putfield 211, 3) := by decide +kernel
theorem dX11_token_232 : decode cX11_token 232 = .ok (.aload_n 0, 1) := by decide +kernel
theorem dX11_token_233 : decode cX11_token 233 = .ok (.getfield 211, 3) := by decide +kernel
theorem dX11_token_236 : decode cX11_token 236 = .ok (.iconst 3, 1) := by decide +kernel
theorem dX11_token_237 : decode cX11_token 237 = .ok (.if_icmp .eq 13, 3) := by decide +kernel
theorem dX11_token_240 : decode cX11_token 240 = .ok (.aload_n 0, 1) := by decide +kernel
theorem dX11_token_241 : decode cX11_token 241 = .ok (.dup, 1) := by decide +kernel
theorem dX11_token_242 : decode cX11_token 242 = .ok (.getfield 191, 3) := by decide +kernel
theorem dX11_token_245 : decode cX11_token 245 = .ok (.iload_n 2, 1) := by decide +kernel
theorem dX11_token_246 : decode cX11_token 246 = .ok (.iadd, 1) := by decide +kernel
theorem dX11_token_247 : decode cX11_token 247 = .ok (.putfield 191, 3) := by decide +kernel
theorem dX11_token_250 : decode cX11_token 250 = .ok (.return_, 1) := by decide +kernel
theorem dX11_wrong_0 : decode cX11_wrong 0 = .ok (.aload_n 0, 1) := by decide +kernel
theorem dX11_wrong_1 : decode cX11_wrong 1 = .ok (.getfield 224, 3) := by decide +kernel
theorem dX11_wrong_4 : decode cX11_wrong 4 = .ok (.ifCond .le 4, 3) := by decide +kernel
theorem dX11_wrong_7 : decode cX11_wrong 7 = .ok (.return_, 1) := by decide +kernel
theorem dX11_wrong_8 : decode cX11_wrong 8 = .ok (.aload_n 0, 1) := by decide +kernel
theorem dX11_wrong_9 : decode cX11_wrong 9 = .ok (.aload_n 0, 1) := by decide +kernel
theorem dX11_wrong_10 : decode cX11_wrong 10 = .ok (.getfield 211, 3) := by decide +kernel
theorem dX11_wrong_13 : decode cX11_wrong 13 = .ok (.iconst 3, 1) := by decide +kernel
theorem dX11_wrong_14 : decode cX11_wrong 14 = .ok (.if_icmp .ne 7, 3) := by decide +kernel
theorem dX11_wrong_17 : decode cX11_wrong 17 = .ok (.iconst 1, 1) := by decide +kernel
theorem dX11_wrong_18 : decode cX11_wrong 18 = .ok (.goto 4, 3) := by decide +kernel
theorem dX11_wrong_21 : decode cX11_wrong 21 = .ok (.iload_n 1, 1) := by decide +kernel
theorem dX11_wrong_22 : decode cX11_wrong 22 = .ok (.putfield 224, 3) := by decide +kernel
theorem dX11_wrong_25 : decode cX11_wrong 25 = .ok (.aload_n 0, 1) := by decide +kernel
theorem dX11_wrong_26 : decode cX11_wrong 26 = .ok (.aload_n 0, 1) := by decide +kernel
theorem dX11_wrong_27 : decode cX11_wrong 27 = .ok (.getfield 201, 3) := by decide +kernel
theorem dX11_wrong_30 : decode cX11_wrong 30 = .ok (.putfield 13, 3) := by decide +kernel
theorem dX11_wrong_33 : decode cX11_wrong 33 = .ok (.return_, 1) := by decide +kernel
theorem dX11_wrongAt_0 : decode cX11_wrongAt 0 = .ok (.aload_n 0, 1) := by decide +kernel
theorem dX11_wrongAt_1 : decode cX11_wrongAt 1 = .ok (.getfield 224, 3) := by decide +kernel
theorem dX11_wrongAt_4 : decode cX11_wrongAt 4 = .ok (.ifCond .le 4, 3) := by decide +kernel
theorem dX11_wrongAt_7 : decode cX11_wrongAt 7 = .ok (.return_, 1) := by decide +kernel
theorem dX11_wrongAt_8 : decode cX11_wrongAt 8 = .ok (.aload_n 0, 1) := by decide +kernel
theorem dX11_wrongAt_9 : decode cX11_wrongAt 9 = .ok (.iload_n 1, 1) := by decide +kernel
theorem dX11_wrongAt_10 : decode cX11_wrongAt 10 = .ok (.putfield 224, 3) := by decide +kernel
theorem dX11_wrongAt_13 : decode cX11_wrongAt 13 = .ok (.aload_n 0, 1) := by decide +kernel
theorem dX11_wrongAt_14 : decode cX11_wrongAt 14 = .ok (.iload_n 2, 1) := by decide +kernel
theorem dX11_wrongAt_15 : decode cX11_wrongAt 15 = .ok (.putfield 13, 3) := by decide +kernel
theorem dX11_wrongAt_18 : decode cX11_wrongAt 18 = .ok (.return_, 1) := by decide +kernel
theorem dX11_isWord_0 : decode cX11_isWord 0 = .ok (.aload_n 0, 1) := by decide +kernel
theorem dX11_isWord_1 : decode cX11_isWord 1 = .ok (.getfield 211, 3) := by decide +kernel
theorem dX11_isWord_4 : decode cX11_isWord 4 = .ok (.iconst 1, 1) := by decide +kernel
theorem dX11_isWord_5 : decode cX11_isWord 5 = .ok (.if_icmp .ne 16, 3) := by decide +kernel
theorem dX11_isWord_8 : decode cX11_isWord 8 = .ok (.aload_n 0, 1) := by decide +kernel
theorem dX11_isWord_9 : decode cX11_isWord 9 = .ok (.getfield 204, 3) := by decide +kernel
theorem dX11_isWord_12 : decode cX11_isWord 12 = .ok (.lload_n 1, 1) := by decide +kernel
theorem dX11_isWord_13 : decode cX11_isWord 13 = .ok (.lcmp, 1) := by decide +kernel
theorem dX11_isWord_14 : decode cX11_isWord 14 = .ok (.ifCond .ne 7, 3) := by decide +kernel
theorem dX11_isWord_17 : decode cX11_isWord 17 = .ok (.iconst 1, 1) := by decide +kernel
theorem dX11_isWord_18 : decode cX11_isWord 18 = .ok (.goto 4, 3) := by decide +kernel
theorem dX11_isWord_21 : decode cX11_isWord 21 = .ok (.iconst 0, 1) := by decide +kernel
theorem dX11_isWord_22 : decode cX11_isWord 22 = .ok (.ireturn, 1) := by decide +kernel
theorem dX11_isOwn_0 : decode cX11_isOwn 0 = .ok (.aload_n 0, 1) := by decide +kernel
theorem dX11_isOwn_1 : decode cX11_isOwn 1 = .ok (.getfield 204, 3) := by decide +kernel
theorem dX11_isOwn_4 : decode cX11_isOwn 4 = .ok (.ldc2_w 227, 3) := by decide +kernel
theorem dX11_isOwn_7 : decode cX11_isOwn 7 = .ok (.lcmp, 1) := by decide +kernel
theorem dX11_isOwn_8 : decode cX11_isOwn 8 = .ok (.ifCond .eq 278, 3) := by decide +kernel
theorem dX11_isOwn_11 : decode cX11_isOwn 11 = .ok (.aload_n 0, 1) := by decide +kernel
theorem dX11_isOwn_12 : decode cX11_isOwn 12 = .ok (.getfield 204, 3) := by decide +kernel
theorem dX11_isOwn_15 : decode cX11_isOwn 15 = .ok (.ldc2_w 229, 3) := by decide +kernel
theorem dX11_isOwn_18 : decode cX11_isOwn 18 = .ok (.lcmp, 1) := by decide +kernel
theorem dX11_isOwn_19 : decode cX11_isOwn 19 = .ok (.ifCond .eq 267, 3) := by decide +kernel
theorem dX11_isOwn_22 : decode cX11_isOwn 22 = .ok (.aload_n 0, 1) := by decide +kernel
theorem dX11_isOwn_23 : decode cX11_isOwn 23 = .ok (.getfield 204, 3) := by decide +kernel
theorem dX11_isOwn_26 : decode cX11_isOwn 26 = .ok (.ldc2_w 231, 3) := by decide +kernel
theorem dX11_isOwn_29 : decode cX11_isOwn 29 = .ok (.lcmp, 1) := by decide +kernel
theorem dX11_isOwn_30 : decode cX11_isOwn 30 = .ok (.ifCond .eq 256, 3) := by decide +kernel
theorem dX11_isOwn_33 : decode cX11_isOwn 33 = .ok (.aload_n 0, 1) := by decide +kernel
theorem dX11_isOwn_34 : decode cX11_isOwn 34 = .ok (.getfield 204, 3) := by decide +kernel
theorem dX11_isOwn_37 : decode cX11_isOwn 37 = .ok (.ldc2_w 233, 3) := by decide +kernel
theorem dX11_isOwn_40 : decode cX11_isOwn 40 = .ok (.lcmp, 1) := by decide +kernel
theorem dX11_isOwn_41 : decode cX11_isOwn 41 = .ok (.ifCond .eq 245, 3) := by decide +kernel
theorem dX11_isOwn_44 : decode cX11_isOwn 44 = .ok (.aload_n 0, 1) := by decide +kernel
theorem dX11_isOwn_45 : decode cX11_isOwn 45 = .ok (.getfield 204, 3) := by decide +kernel
theorem dX11_isOwn_48 : decode cX11_isOwn 48 = .ok (.ldc2_w 235, 3) := by decide +kernel
theorem dX11_isOwn_51 : decode cX11_isOwn 51 = .ok (.lcmp, 1) := by decide +kernel
theorem dX11_isOwn_52 : decode cX11_isOwn 52 = .ok (.ifCond .eq 234, 3) := by decide +kernel
theorem dX11_isOwn_55 : decode cX11_isOwn 55 = .ok (.aload_n 0, 1) := by decide +kernel
theorem dX11_isOwn_56 : decode cX11_isOwn 56 = .ok (.getfield 204, 3) := by decide +kernel
theorem dX11_isOwn_59 : decode cX11_isOwn 59 = .ok (.ldc2_w 237, 3) := by decide +kernel
theorem dX11_isOwn_62 : decode cX11_isOwn 62 = .ok (.lcmp, 1) := by decide +kernel
theorem dX11_isOwn_63 : decode cX11_isOwn 63 = .ok (.ifCond .eq 223, 3) := by decide +kernel
theorem dX11_isOwn_66 : decode cX11_isOwn 66 = .ok (.aload_n 0, 1) := by decide +kernel
theorem dX11_isOwn_67 : decode cX11_isOwn 67 = .ok (.getfield 204, 3) := by decide +kernel
theorem dX11_isOwn_70 : decode cX11_isOwn 70 = .ok (.ldc2_w 239, 3) := by decide +kernel
theorem dX11_isOwn_73 : decode cX11_isOwn 73 = .ok (.lcmp, 1) := by decide +kernel
theorem dX11_isOwn_74 : decode cX11_isOwn 74 = .ok (.ifCond .eq 212, 3) := by decide +kernel
theorem dX11_isOwn_77 : decode cX11_isOwn 77 = .ok (.aload_n 0, 1) := by decide +kernel
theorem dX11_isOwn_78 : decode cX11_isOwn 78 = .ok (.getfield 204, 3) := by decide +kernel
theorem dX11_isOwn_81 : decode cX11_isOwn 81 = .ok (.ldc2_w 241, 3) := by decide +kernel
theorem dX11_isOwn_84 : decode cX11_isOwn 84 = .ok (.lcmp, 1) := by decide +kernel
theorem dX11_isOwn_85 : decode cX11_isOwn 85 = .ok (.ifCond .eq 201, 3) := by decide +kernel
theorem dX11_isOwn_88 : decode cX11_isOwn 88 = .ok (.aload_n 0, 1) := by decide +kernel
theorem dX11_isOwn_89 : decode cX11_isOwn 89 = .ok (.getfield 204, 3) := by decide +kernel
theorem dX11_isOwn_92 : decode cX11_isOwn 92 = .ok (.ldc2_w 243, 3) := by decide +kernel
theorem dX11_isOwn_95 : decode cX11_isOwn 95 = .ok (.lcmp, 1) := by decide +kernel
theorem dX11_isOwn_96 : decode cX11_isOwn 96 = .ok (.ifCond .eq 190, 3) := by decide +kernel
theorem dX11_isOwn_99 : decode cX11_isOwn 99 = .ok (.aload_n 0, 1) := by decide +kernel
theorem dX11_isOwn_100 : decode cX11_isOwn 100 = .ok (.getfield 204, 3) := by decide +kernel
theorem dX11_isOwn_103 : decode cX11_isOwn 103 = .ok (.ldc2_w 245, 3) := by decide +kernel
theorem dX11_isOwn_106 : decode cX11_isOwn 106 = .ok (.lcmp, 1) := by decide +kernel
theorem dX11_isOwn_107 : decode cX11_isOwn 107 = .ok (.ifCond .eq 179, 3) := by decide +kernel
theorem dX11_isOwn_110 : decode cX11_isOwn 110 = .ok (.aload_n 0, 1) := by decide +kernel
theorem dX11_isOwn_111 : decode cX11_isOwn 111 = .ok (.getfield 204, 3) := by decide +kernel
theorem dX11_isOwn_114 : decode cX11_isOwn 114 = .ok (.ldc2_w 247, 3) := by decide +kernel
theorem dX11_isOwn_117 : decode cX11_isOwn 117 = .ok (.lcmp, 1) := by decide +kernel
theorem dX11_isOwn_118 : decode cX11_isOwn 118 = .ok (.ifCond .eq 168, 3) := by decide +kernel
theorem dX11_isOwn_121 : decode cX11_isOwn 121 = .ok (.aload_n 0, 1) := by decide +kernel
theorem dX11_isOwn_122 : decode cX11_isOwn 122 = .ok (.getfield 204, 3) := by decide +kernel
theorem dX11_isOwn_125 : decode cX11_isOwn 125 = .ok (.ldc2_w 249, 3) := by decide +kernel
theorem dX11_isOwn_128 : decode cX11_isOwn 128 = .ok (.lcmp, 1) := by decide +kernel
theorem dX11_isOwn_129 : decode cX11_isOwn 129 = .ok (.ifCond .eq 157, 3) := by decide +kernel
theorem dX11_isOwn_132 : decode cX11_isOwn 132 = .ok (.aload_n 0, 1) := by decide +kernel
theorem dX11_isOwn_133 : decode cX11_isOwn 133 = .ok (.getfield 204, 3) := by decide +kernel
theorem dX11_isOwn_136 : decode cX11_isOwn 136 = .ok (.ldc2_w 251, 3) := by decide +kernel
theorem dX11_isOwn_139 : decode cX11_isOwn 139 = .ok (.lcmp, 1) := by decide +kernel
theorem dX11_isOwn_140 : decode cX11_isOwn 140 = .ok (.ifCond .eq 146, 3) := by decide +kernel
theorem dX11_isOwn_143 : decode cX11_isOwn 143 = .ok (.aload_n 0, 1) := by decide +kernel
theorem dX11_isOwn_144 : decode cX11_isOwn 144 = .ok (.getfield 204, 3) := by decide +kernel
theorem dX11_isOwn_147 : decode cX11_isOwn 147 = .ok (.ldc2_w 253, 3) := by decide +kernel
theorem dX11_isOwn_150 : decode cX11_isOwn 150 = .ok (.lcmp, 1) := by decide +kernel
theorem dX11_isOwn_151 : decode cX11_isOwn 151 = .ok (.ifCond .eq 135, 3) := by decide +kernel
theorem dX11_isOwn_154 : decode cX11_isOwn 154 = .ok (.aload_n 0, 1) := by decide +kernel
theorem dX11_isOwn_155 : decode cX11_isOwn 155 = .ok (.getfield 204, 3) := by decide +kernel
theorem dX11_isOwn_158 : decode cX11_isOwn 158 = .ok (.ldc2_w 255, 3) := by decide +kernel
theorem dX11_isOwn_161 : decode cX11_isOwn 161 = .ok (.lcmp, 1) := by decide +kernel
theorem dX11_isOwn_162 : decode cX11_isOwn 162 = .ok (.ifCond .eq 124, 3) := by decide +kernel
theorem dX11_isOwn_165 : decode cX11_isOwn 165 = .ok (.aload_n 0, 1) := by decide +kernel
theorem dX11_isOwn_166 : decode cX11_isOwn 166 = .ok (.getfield 204, 3) := by decide +kernel
theorem dX11_isOwn_169 : decode cX11_isOwn 169 = .ok (.ldc2_w 257, 3) := by decide +kernel
theorem dX11_isOwn_172 : decode cX11_isOwn 172 = .ok (.lcmp, 1) := by decide +kernel
theorem dX11_isOwn_173 : decode cX11_isOwn 173 = .ok (.ifCond .eq 113, 3) := by decide +kernel
theorem dX11_isOwn_176 : decode cX11_isOwn 176 = .ok (.aload_n 0, 1) := by decide +kernel
theorem dX11_isOwn_177 : decode cX11_isOwn 177 = .ok (.getfield 204, 3) := by decide +kernel
theorem dX11_isOwn_180 : decode cX11_isOwn 180 = .ok (.ldc2_w 259, 3) := by decide +kernel
theorem dX11_isOwn_183 : decode cX11_isOwn 183 = .ok (.lcmp, 1) := by decide +kernel
theorem dX11_isOwn_184 : decode cX11_isOwn 184 = .ok (.ifCond .eq 102, 3) := by decide +kernel
theorem dX11_isOwn_187 : decode cX11_isOwn 187 = .ok (.aload_n 0, 1) := by decide +kernel
theorem dX11_isOwn_188 : decode cX11_isOwn 188 = .ok (.getfield 204, 3) := by decide +kernel
theorem dX11_isOwn_191 : decode cX11_isOwn 191 = .ok (.ldc2_w 261, 3) := by decide +kernel
theorem dX11_isOwn_194 : decode cX11_isOwn 194 = .ok (.lcmp, 1) := by decide +kernel
theorem dX11_isOwn_195 : decode cX11_isOwn 195 = .ok (.ifCond .eq 91, 3) := by decide +kernel
theorem dX11_isOwn_198 : decode cX11_isOwn 198 = .ok (.aload_n 0, 1) := by decide +kernel
theorem dX11_isOwn_199 : decode cX11_isOwn 199 = .ok (.getfield 204, 3) := by decide +kernel
theorem dX11_isOwn_202 : decode cX11_isOwn 202 = .ok (.ldc2_w 263, 3) := by decide +kernel
theorem dX11_isOwn_205 : decode cX11_isOwn 205 = .ok (.lcmp, 1) := by decide +kernel
theorem dX11_isOwn_206 : decode cX11_isOwn 206 = .ok (.ifCond .eq 80, 3) := by decide +kernel
theorem dX11_isOwn_209 : decode cX11_isOwn 209 = .ok (.aload_n 0, 1) := by decide +kernel
theorem dX11_isOwn_210 : decode cX11_isOwn 210 = .ok (.getfield 204, 3) := by decide +kernel
theorem dX11_isOwn_213 : decode cX11_isOwn 213 = .ok (.ldc2_w 265, 3) := by decide +kernel
theorem dX11_isOwn_216 : decode cX11_isOwn 216 = .ok (.lcmp, 1) := by decide +kernel
theorem dX11_isOwn_217 : decode cX11_isOwn 217 = .ok (.ifCond .eq 69, 3) := by decide +kernel
theorem dX11_isOwn_220 : decode cX11_isOwn 220 = .ok (.aload_n 0, 1) := by decide +kernel
theorem dX11_isOwn_221 : decode cX11_isOwn 221 = .ok (.getfield 204, 3) := by decide +kernel
theorem dX11_isOwn_224 : decode cX11_isOwn 224 = .ok (.ldc2_w 267, 3) := by decide +kernel
theorem dX11_isOwn_227 : decode cX11_isOwn 227 = .ok (.lcmp, 1) := by decide +kernel
theorem dX11_isOwn_228 : decode cX11_isOwn 228 = .ok (.ifCond .eq 58, 3) := by decide +kernel
theorem dX11_isOwn_231 : decode cX11_isOwn 231 = .ok (.aload_n 0, 1) := by decide +kernel
theorem dX11_isOwn_232 : decode cX11_isOwn 232 = .ok (.getfield 204, 3) := by decide +kernel
theorem dX11_isOwn_235 : decode cX11_isOwn 235 = .ok (.ldc2_w 269, 3) := by decide +kernel
theorem dX11_isOwn_238 : decode cX11_isOwn 238 = .ok (.lcmp, 1) := by decide +kernel
theorem dX11_isOwn_239 : decode cX11_isOwn 239 = .ok (.ifCond .eq 47, 3) := by decide +kernel
theorem dX11_isOwn_242 : decode cX11_isOwn 242 = .ok (.aload_n 0, 1) := by decide +kernel
theorem dX11_isOwn_243 : decode cX11_isOwn 243 = .ok (.getfield 204, 3) := by decide +kernel
theorem dX11_isOwn_246 : decode cX11_isOwn 246 = .ok (.ldc2_w 271, 3) := by decide +kernel
theorem dX11_isOwn_249 : decode cX11_isOwn 249 = .ok (.lcmp, 1) := by decide +kernel
theorem dX11_isOwn_250 : decode cX11_isOwn 250 = .ok (.ifCond .eq 36, 3) := by decide +kernel
theorem dX11_isOwn_253 : decode cX11_isOwn 253 = .ok (.aload_n 0, 1) := by decide +kernel
theorem dX11_isOwn_254 : decode cX11_isOwn 254 = .ok (.getfield 204, 3) := by decide +kernel
theorem dX11_isOwn_257 : decode cX11_isOwn 257 = .ok (.ldc2_w 273, 3) := by decide +kernel
theorem dX11_isOwn_260 : decode cX11_isOwn 260 = .ok (.lcmp, 1) := by decide +kernel
theorem dX11_isOwn_261 : decode cX11_isOwn 261 = .ok (.ifCond .eq 25, 3) := by decide +kernel
theorem dX11_isOwn_264 : decode cX11_isOwn 264 = .ok (.aload_n 0, 1) := by decide +kernel
theorem dX11_isOwn_265 : decode cX11_isOwn 265 = .ok (.getfield 204, 3) := by decide +kernel
theorem dX11_isOwn_268 : decode cX11_isOwn 268 = .ok (.ldc2_w 275, 3) := by decide +kernel
theorem dX11_isOwn_271 : decode cX11_isOwn 271 = .ok (.lcmp, 1) := by decide +kernel
theorem dX11_isOwn_272 : decode cX11_isOwn 272 = .ok (.ifCond .eq 14, 3) := by decide +kernel
theorem dX11_isOwn_275 : decode cX11_isOwn 275 = .ok (.aload_n 0, 1) := by decide +kernel
theorem dX11_isOwn_276 : decode cX11_isOwn 276 = .ok (.getfield 204, 3) := by decide +kernel
theorem dX11_isOwn_279 : decode cX11_isOwn 279 = .ok (.ldc2_w 277, 3) := by decide +kernel
theorem dX11_isOwn_282 : decode cX11_isOwn 282 = .ok (.lcmp, 1) := by decide +kernel
theorem dX11_isOwn_283 : decode cX11_isOwn 283 = .ok (.ifCond .ne 7, 3) := by decide +kernel
theorem dX11_isOwn_286 : decode cX11_isOwn 286 = .ok (.iconst 1, 1) := by decide +kernel
theorem dX11_isOwn_287 : decode cX11_isOwn 287 = .ok (.goto 4, 3) := by decide +kernel
theorem dX11_isOwn_290 : decode cX11_isOwn 290 = .ok (.iconst 0, 1) := by decide +kernel
theorem dX11_isOwn_291 : decode cX11_isOwn 291 = .ok (.ireturn, 1) := by decide +kernel
theorem dX11_isName_0 : decode cX11_isName 0 = .ok (.aload_n 0, 1) := by decide +kernel
theorem dX11_isName_1 : decode cX11_isName 1 = .ok (.getfield 211, 3) := by decide +kernel
theorem dX11_isName_4 : decode cX11_isName 4 = .ok (.iconst 1, 1) := by decide +kernel
theorem dX11_isName_5 : decode cX11_isName 5 = .ok (.if_icmp .ne 14, 3) := by decide +kernel
theorem dX11_isName_8 : decode cX11_isName 8 = .ok (.aload_n 0, 1) := by decide +kernel
theorem dX11_isName_9 : decode cX11_isName 9 = .ok (.invokevirtual 279, 3) := by decide +kernel
theorem dX11_isName_12 : decode cX11_isName 12 = .ok (.ifCond .ne 7, 3) := by decide +kernel
theorem dX11_isName_15 : decode cX11_isName 15 = .ok (.iconst 1, 1) := by decide +kernel
theorem dX11_isName_16 : decode cX11_isName 16 = .ok (.goto 4, 3) := by decide +kernel
theorem dX11_isName_19 : decode cX11_isName 19 = .ok (.iconst 0, 1) := by decide +kernel
theorem dX11_isName_20 : decode cX11_isName 20 = .ok (.ireturn, 1) := by decide +kernel
theorem dX11_takes_0 : decode cX11_takes 0 = .ok (.aload_n 0, 1) := by decide +kernel
theorem dX11_takes_1 : decode cX11_takes 1 = .ok (.getfield 224, 3) := by decide +kernel
theorem dX11_takes_4 : decode cX11_takes 4 = .ok (.ifCond .ne 15, 3) := by decide +kernel
theorem dX11_takes_7 : decode cX11_takes 7 = .ok (.aload_n 0, 1) := by decide +kernel
theorem dX11_takes_8 : decode cX11_takes 8 = .ok (.lload_n 1, 1) := by decide +kernel
theorem dX11_takes_9 : decode cX11_takes 9 = .ok (.invokevirtual 283, 3) := by decide +kernel
theorem dX11_takes_12 : decode cX11_takes 12 = .ok (.ifCond .eq 7, 3) := by decide +kernel
theorem dX11_takes_15 : decode cX11_takes 15 = .ok (.iconst 1, 1) := by decide +kernel
theorem dX11_takes_16 : decode cX11_takes 16 = .ok (.goto 4, 3) := by decide +kernel
theorem dX11_takes_19 : decode cX11_takes 19 = .ok (.iconst 0, 1) := by decide +kernel
theorem dX11_takes_20 : decode cX11_takes 20 = .ok (.istore_n 3, 1) := by decide +kernel
theorem dX11_takes_21 : decode cX11_takes 21 = .ok (.iload_n 3, 1) := by decide +kernel
theorem dX11_takes_22 : decode cX11_takes 22 = .ok (.ifCond .eq 7, 3) := by decide +kernel
theorem dX11_takes_25 : decode cX11_takes 25 = .ok (.aload_n 0, 1) := by decide +kernel
theorem dX11_takes_26 : decode cX11_takes 26 = .ok (.invokevirtual 287, 3) := by decide +kernel
theorem dX11_takes_29 : decode cX11_takes 29 = .ok (.iload_n 3, 1) := by decide +kernel
theorem dX11_takes_30 : decode cX11_takes 30 = .ok (.ireturn, 1) := by decide +kernel
theorem dX11_want_0 : decode cX11_want 0 = .ok (.aload_n 0, 1) := by decide +kernel
theorem dX11_want_1 : decode cX11_want 1 = .ok (.getfield 224, 3) := by decide +kernel
theorem dX11_want_4 : decode cX11_want 4 = .ok (.ifCond .le 4, 3) := by decide +kernel
theorem dX11_want_7 : decode cX11_want 7 = .ok (.return_, 1) := by decide +kernel
theorem dX11_want_8 : decode cX11_want 8 = .ok (.aload_n 0, 1) := by decide +kernel
theorem dX11_want_9 : decode cX11_want 9 = .ok (.lload_n 1, 1) := by decide +kernel
theorem dX11_want_10 : decode cX11_want 10 = .ok (.invokevirtual 283, 3) := by decide +kernel
theorem dX11_want_13 : decode cX11_want 13 = .ok (.ifCond .ne 11, 3) := by decide +kernel
theorem dX11_want_16 : decode cX11_want 16 = .ok (.aload_n 0, 1) := by decide +kernel
theorem dX11_want_17 : decode cX11_want 17 = .ok (.iconst 2, 1) := by decide +kernel
theorem dX11_want_18 : decode cX11_want 18 = .ok (.invokevirtual 290, 3) := by decide +kernel
theorem dX11_want_21 : decode cX11_want 21 = .ok (.goto 7, 3) := by decide +kernel
theorem dX11_want_24 : decode cX11_want 24 = .ok (.aload_n 0, 1) := by decide +kernel
theorem dX11_want_25 : decode cX11_want 25 = .ok (.invokevirtual 287, 3) := by decide +kernel
theorem dX11_want_28 : decode cX11_want 28 = .ok (.return_, 1) := by decide +kernel
theorem dX11_toldNumber_0 : decode cX11_toldNumber 0 = .ok (.aload_n 0, 1) := by decide +kernel
theorem dX11_toldNumber_1 : decode cX11_toldNumber 1 = .ok (.getfield 224, 3) := by decide +kernel
theorem dX11_toldNumber_4 : decode cX11_toldNumber 4 = .ok (.ifCond .le 5, 3) := by decide +kernel
theorem dX11_toldNumber_7 : decode cX11_toldNumber 7 = .ok (.iconst 0, 1) := by decide +kernel
theorem dX11_toldNumber_8 : decode cX11_toldNumber 8 = .ok (.ireturn, 1) := by decide +kernel
theorem dX11_toldNumber_9 : decode cX11_toldNumber 9 = .ok (.aload_n 0, 1) := by decide +kernel
theorem dX11_toldNumber_10 : decode cX11_toldNumber 10 = .ok (.getfield 211, 3) := by decide +kernel
theorem dX11_toldNumber_13 : decode cX11_toldNumber 13 = .ok (.iconst 2, 1) := by decide +kernel
theorem dX11_toldNumber_14 : decode cX11_toldNumber 14 = .ok (.if_icmp .eq 11, 3) := by decide +kernel
theorem dX11_toldNumber_17 : decode cX11_toldNumber 17 = .ok (.aload_n 0, 1) := by decide +kernel
theorem dX11_toldNumber_18 : decode cX11_toldNumber 18 = .ok (.iconst 2, 1) := by decide +kernel
theorem dX11_toldNumber_19 : decode cX11_toldNumber 19 = .ok (.invokevirtual 290, 3) := by decide +kernel
theorem dX11_toldNumber_22 : decode cX11_toldNumber 22 = .ok (.goto 24, 3) := by decide +kernel
theorem dX11_toldNumber_25 : decode cX11_toldNumber 25 = .ok (.aload_n 0, 1) := by decide +kernel
theorem dX11_toldNumber_26 : decode cX11_toldNumber 26 = .ok (.getfield 208, 3) := by decide +kernel
theorem dX11_toldNumber_29 : decode cX11_toldNumber 29 = .ok (.iload_n 1, 1) := by decide +kernel
theorem dX11_toldNumber_30 : decode cX11_toldNumber 30 = .ok (.if_icmp .lt 11, 3) := by decide +kernel
theorem dX11_toldNumber_33 : decode cX11_toldNumber 33 = .ok (.aload_n 0, 1) := by decide +kernel
theorem dX11_toldNumber_34 : decode cX11_toldNumber 34 = .ok (.getfield 208, 3) := by decide +kernel
theorem dX11_toldNumber_37 : decode cX11_toldNumber 37 = .ok (.iload_n 2, 1) := by decide +kernel
theorem dX11_toldNumber_38 : decode cX11_toldNumber 38 = .ok (.if_icmp .le 8, 3) := by decide +kernel
theorem dX11_toldNumber_41 : decode cX11_toldNumber 41 = .ok (.aload_n 0, 1) := by decide +kernel
theorem dX11_toldNumber_42 : decode cX11_toldNumber 42 = .ok (.iconst 4, 1) := by decide +kernel
theorem dX11_toldNumber_43 : decode cX11_toldNumber 43 = .ok (.invokevirtual 290, 3) := by decide +kernel
theorem dX11_toldNumber_46 : decode cX11_toldNumber 46 = .ok (.aload_n 0, 1) := by decide +kernel
theorem dX11_toldNumber_47 : decode cX11_toldNumber 47 = .ok (.getfield 208, 3) := by decide +kernel
theorem dX11_toldNumber_50 : decode cX11_toldNumber 50 = .ok (.istore_n 3, 1) := by decide +kernel
theorem dX11_toldNumber_51 : decode cX11_toldNumber 51 = .ok (.aload_n 0, 1) := by decide +kernel
theorem dX11_toldNumber_52 : decode cX11_toldNumber 52 = .ok (.getfield 224, 3) := by decide +kernel
theorem dX11_toldNumber_55 : decode cX11_toldNumber 55 = .ok (.ifCond .ne 7, 3) := by decide +kernel
theorem dX11_toldNumber_58 : decode cX11_toldNumber 58 = .ok (.aload_n 0, 1) := by decide +kernel
theorem dX11_toldNumber_59 : decode cX11_toldNumber 59 = .ok (.invokevirtual 287, 3) := by decide +kernel
theorem dX11_toldNumber_62 : decode cX11_toldNumber 62 = .ok (.iload_n 3, 1) := by decide +kernel
theorem dX11_toldNumber_63 : decode cX11_toldNumber 63 = .ok (.ireturn, 1) := by decide +kernel
theorem dX11_told_0 : decode cX11_told 0 = .ok (.aload_n 0, 1) := by decide +kernel
theorem dX11_told_1 : decode cX11_told 1 = .ok (.lload_n 1, 1) := by decide +kernel
theorem dX11_told_2 : decode cX11_told 2 = .ok (.invokevirtual 293, 3) := by decide +kernel
theorem dX11_told_5 : decode cX11_told 5 = .ok (.aload_n 0, 1) := by decide +kernel
theorem dX11_told_6 : decode cX11_told 6 = .ok (.iload_n 3, 1) := by decide +kernel
theorem dX11_told_7 : decode cX11_told 7 = .ok (.iload 4, 2) := by decide +kernel
theorem dX11_told_9 : decode cX11_told 9 = .ok (.invokevirtual 297, 3) := by decide +kernel
theorem dX11_told_12 : decode cX11_told 12 = .ok (.ireturn, 1) := by decide +kernel
theorem dX11_add_0 : decode cX11_add 0 = .ok (.aload_n 0, 1) := by decide +kernel
theorem dX11_add_1 : decode cX11_add 1 = .ok (.getfield 17, 3) := by decide +kernel
theorem dX11_add_4 : decode cX11_add 4 = .ok (.sipush 320, 3) := by decide +kernel
theorem dX11_add_7 : decode cX11_add 7 = .ok (.aload_n 0, 1) := by decide +kernel
theorem dX11_add_8 : decode cX11_add 8 = .ok (.getfield 301, 3) := by decide +kernel
theorem dX11_add_11 : decode cX11_add 11 = .ok (.imul, 1) := by decide +kernel
theorem dX11_add_12 : decode cX11_add 12 = .ok (.aload_n 0, 1) := by decide +kernel
theorem dX11_add_13 : decode cX11_add 13 = .ok (.getfield 23, 3) := by decide +kernel
theorem dX11_add_16 : decode cX11_add 16 = .ok (.aload_n 0, 1) := by decide +kernel
theorem dX11_add_17 : decode cX11_add 17 = .ok (.getfield 301, 3) := by decide +kernel
theorem dX11_add_20 : decode cX11_add 20 = .ok (.iaload, 1) := by decide +kernel
theorem dX11_add_21 : decode cX11_add 21 = .ok (.iadd, 1) := by decide +kernel
theorem dX11_add_22 : decode cX11_add 22 = .ok (.iload_n 1, 1) := by decide +kernel
theorem dX11_add_23 : decode cX11_add 23 = .ok (.iastore, 1) := by decide +kernel
theorem dX11_add_24 : decode cX11_add 24 = .ok (.aload_n 0, 1) := by decide +kernel
theorem dX11_add_25 : decode cX11_add 25 = .ok (.getfield 20, 3) := by decide +kernel
theorem dX11_add_28 : decode cX11_add 28 = .ok (.sipush 320, 3) := by decide +kernel
theorem dX11_add_31 : decode cX11_add 31 = .ok (.aload_n 0, 1) := by decide +kernel
theorem dX11_add_32 : decode cX11_add 32 = .ok (.getfield 301, 3) := by decide +kernel
theorem dX11_add_35 : decode cX11_add 35 = .ok (.imul, 1) := by decide +kernel
theorem dX11_add_36 : decode cX11_add 36 = .ok (.aload_n 0, 1) := by decide +kernel
theorem dX11_add_37 : decode cX11_add 37 = .ok (.getfield 23, 3) := by decide +kernel
theorem dX11_add_40 : decode cX11_add 40 = .ok (.aload_n 0, 1) := by decide +kernel
theorem dX11_add_41 : decode cX11_add 41 = .ok (.getfield 301, 3) := by decide +kernel
theorem dX11_add_44 : decode cX11_add 44 = .ok (.iaload, 1) := by decide +kernel
theorem dX11_add_45 : decode cX11_add 45 = .ok (.iadd, 1) := by decide +kernel
theorem dX11_add_46 : decode cX11_add 46 = .ok (.iload_n 2, 1) := by decide +kernel
theorem dX11_add_47 : decode cX11_add 47 = .ok (.iastore, 1) := by decide +kernel
theorem dX11_add_48 : decode cX11_add 48 = .ok (.aload_n 0, 1) := by decide +kernel
theorem dX11_add_49 : decode cX11_add 49 = .ok (.getfield 23, 3) := by decide +kernel
theorem dX11_add_52 : decode cX11_add 52 = .ok (.aload_n 0, 1) := by decide +kernel
theorem dX11_add_53 : decode cX11_add 53 = .ok (.getfield 301, 3) := by decide +kernel
theorem dX11_add_56 : decode cX11_add 56 = .ok (.dup2, 1) := by decide +kernel
theorem dX11_add_57 : decode cX11_add 57 = .ok (.iaload, 1) := by decide +kernel
theorem dX11_add_58 : decode cX11_add 58 = .ok (.iconst 1, 1) := by decide +kernel
theorem dX11_add_59 : decode cX11_add 59 = .ok (.iadd, 1) := by decide +kernel
theorem dX11_add_60 : decode cX11_add 60 = .ok (.iastore, 1) := by decide +kernel
theorem dX11_add_61 : decode cX11_add 61 = .ok (.return_, 1) := by decide +kernel
theorem dX11_tight_0 : decode cX11_tight 0 = .ok (.iload_n 0, 1) := by decide +kernel
theorem dX11_tight_1 : decode cX11_tight 1 = .ok (.lookupswitch 85 #[(21, 79), (38, 77), (43, 83), (45, 83), (60, 81), (61, 81), (62, 81), (124, 75)], 75) := by decide +kernel
theorem dX11_tight_76 : decode cX11_tight 76 = .ok (.iconst 1, 1) := by decide +kernel
theorem dX11_tight_77 : decode cX11_tight 77 = .ok (.ireturn, 1) := by decide +kernel
theorem dX11_tight_78 : decode cX11_tight 78 = .ok (.iconst 2, 1) := by decide +kernel
theorem dX11_tight_79 : decode cX11_tight 79 = .ok (.ireturn, 1) := by decide +kernel
theorem dX11_tight_80 : decode cX11_tight 80 = .ok (.iconst 3, 1) := by decide +kernel
theorem dX11_tight_81 : decode cX11_tight 81 = .ok (.ireturn, 1) := by decide +kernel
theorem dX11_tight_82 : decode cX11_tight 82 = .ok (.iconst 4, 1) := by decide +kernel
theorem dX11_tight_83 : decode cX11_tight 83 = .ok (.ireturn, 1) := by decide +kernel
theorem dX11_tight_84 : decode cX11_tight 84 = .ok (.iconst 5, 1) := by decide +kernel
theorem dX11_tight_85 : decode cX11_tight 85 = .ok (.ireturn, 1) := by decide +kernel
theorem dX11_tight_86 : decode cX11_tight 86 = .ok (.bipush 6, 2) := by decide +kernel
theorem dX11_tight_88 : decode cX11_tight 88 = .ok (.ireturn, 1) := by decide +kernel
theorem dX11_close_0 : decode cX11_close 0 = .ok (.aload_n 0, 1) := by decide +kernel
theorem dX11_close_1 : decode cX11_close 1 = .ok (.getfield 304, 3) := by decide +kernel
theorem dX11_close_4 : decode cX11_close 4 = .ok (.ifCond .le 97, 3) := by decide +kernel
theorem dX11_close_7 : decode cX11_close 7 = .ok (.aload_n 0, 1) := by decide +kernel
theorem dX11_close_8 : decode cX11_close 8 = .ok (.getfield 35, 3) := by decide +kernel
theorem dX11_close_11 : decode cX11_close 11 = .ok (.aload_n 0, 1) := by decide +kernel
theorem dX11_close_12 : decode cX11_close 12 = .ok (.getfield 304, 3) := by decide +kernel
theorem dX11_close_15 : decode cX11_close 15 = .ok (.iconst 1, 1) := by decide +kernel
theorem dX11_close_16 : decode cX11_close 16 = .ok (.isub, 1) := by decide +kernel
theorem dX11_close_17 : decode cX11_close 17 = .ok (.iaload, 1) := by decide +kernel
theorem dX11_close_18 : decode cX11_close 18 = .ok (.bipush 20, 2) := by decide +kernel
theorem dX11_close_20 : decode cX11_close 20 = .ok (.if_icmp .eq 81, 3) := by decide +kernel
theorem dX11_close_23 : decode cX11_close 23 = .ok (.aload_n 0, 1) := by decide +kernel
theorem dX11_close_24 : decode cX11_close 24 = .ok (.getfield 35, 3) := by decide +kernel
theorem dX11_close_27 : decode cX11_close 27 = .ok (.aload_n 0, 1) := by decide +kernel
theorem dX11_close_28 : decode cX11_close 28 = .ok (.getfield 304, 3) := by decide +kernel
theorem dX11_close_31 : decode cX11_close 31 = .ok (.iconst 1, 1) := by decide +kernel
theorem dX11_close_32 : decode cX11_close 32 = .ok (.isub, 1) := by decide +kernel
theorem dX11_close_33 : decode cX11_close 33 = .ok (.iaload, 1) := by decide +kernel
theorem dX11_close_34 : decode cX11_close 34 = .ok (.invokestatic 307, 3) := by decide +kernel
theorem dX11_close_37 : decode cX11_close 37 = .ok (.iload_n 1, 1) := by decide +kernel
theorem dX11_close_38 : decode cX11_close 38 = .ok (.if_icmp .lt 63, 3) := by decide +kernel
theorem dX11_close_41 : decode cX11_close 41 = .ok (.aload_n 0, 1) := by decide +kernel
theorem dX11_close_42 : decode cX11_close 42 = .ok (.dup, 1) := by decide +kernel
theorem dX11_close_43 : decode cX11_close 43 = .ok (.getfield 304, 3) := by decide +kernel
theorem dX11_close_46 : decode cX11_close 46 = .ok (.iconst 1, 1) := by decide +kernel
theorem dX11_close_47 : decode cX11_close 47 = .ok (.isub, 1) := by decide +kernel
theorem dX11_close_48 : decode cX11_close 48 = .ok (.putfield 304, 3) := by decide +kernel
theorem dX11_close_51 : decode cX11_close 51 = .ok (.aload_n 0, 1) := by decide +kernel
theorem dX11_close_52 : decode cX11_close 52 = .ok (.getfield 35, 3) := by decide +kernel
theorem dX11_close_55 : decode cX11_close 55 = .ok (.aload_n 0, 1) := by decide +kernel
theorem dX11_close_56 : decode cX11_close 56 = .ok (.getfield 304, 3) := by decide +kernel
theorem dX11_close_59 : decode cX11_close 59 = .ok (.iaload, 1) := by decide +kernel
theorem dX11_close_60 : decode cX11_close 60 = .ok (.bipush 21, 2) := by decide +kernel
theorem dX11_close_62 : decode cX11_close 62 = .ok (.if_icmp .ne 22, 3) := by decide +kernel
theorem dX11_close_65 : decode cX11_close 65 = .ok (.aload_n 0, 1) := by decide +kernel
theorem dX11_close_66 : decode cX11_close 66 = .ok (.iconst 2, 1) := by decide +kernel
theorem dX11_close_67 : decode cX11_close 67 = .ok (.iconst 0, 1) := by decide +kernel
theorem dX11_close_68 : decode cX11_close 68 = .ok (.invokevirtual 310, 3) := by decide +kernel
theorem dX11_close_71 : decode cX11_close 71 = .ok (.aload_n 0, 1) := by decide +kernel
theorem dX11_close_72 : decode cX11_close 72 = .ok (.dup, 1) := by decide +kernel
theorem dX11_close_73 : decode cX11_close 73 = .ok (.getfield 314, 3) := by decide +kernel
theorem dX11_close_76 : decode cX11_close 76 = .ok (.iconst 1, 1) := by decide +kernel
theorem dX11_close_77 : decode cX11_close 77 = .ok (.isub, 1) := by decide +kernel
theorem dX11_close_78 : decode cX11_close 78 = .ok (.putfield 314, 3) := by decide +kernel
theorem dX11_close_81 : decode cX11_close 81 = .ok (.goto (-81), 3) := by decide +kernel
theorem dX11_close_84 : decode cX11_close 84 = .ok (.aload_n 0, 1) := by decide +kernel
theorem dX11_close_85 : decode cX11_close 85 = .ok (.iconst 3, 1) := by decide +kernel
theorem dX11_close_86 : decode cX11_close 86 = .ok (.aload_n 0, 1) := by decide +kernel
theorem dX11_close_87 : decode cX11_close 87 = .ok (.getfield 35, 3) := by decide +kernel
theorem dX11_close_90 : decode cX11_close 90 = .ok (.aload_n 0, 1) := by decide +kernel
theorem dX11_close_91 : decode cX11_close 91 = .ok (.getfield 304, 3) := by decide +kernel
theorem dX11_close_94 : decode cX11_close 94 = .ok (.iaload, 1) := by decide +kernel
theorem dX11_close_95 : decode cX11_close 95 = .ok (.invokevirtual 310, 3) := by decide +kernel
theorem dX11_close_98 : decode cX11_close 98 = .ok (.goto (-98), 3) := by decide +kernel
theorem dX11_close_101 : decode cX11_close 101 = .ok (.return_, 1) := by decide +kernel
theorem dX11_hasRelation_0 : decode cX11_hasRelation 0 = .ok (.aload_n 0, 1) := by decide +kernel
theorem dX11_hasRelation_1 : decode cX11_hasRelation 1 = .ok (.getfield 304, 3) := by decide +kernel
theorem dX11_hasRelation_4 : decode cX11_hasRelation 4 = .ok (.iconst 1, 1) := by decide +kernel
theorem dX11_hasRelation_5 : decode cX11_hasRelation 5 = .ok (.isub, 1) := by decide +kernel
theorem dX11_hasRelation_6 : decode cX11_hasRelation 6 = .ok (.istore_n 1, 1) := by decide +kernel
theorem dX11_hasRelation_7 : decode cX11_hasRelation 7 = .ok (.iload_n 1, 1) := by decide +kernel
theorem dX11_hasRelation_8 : decode cX11_hasRelation 8 = .ok (.ifCond .lt 33, 3) := by decide +kernel
theorem dX11_hasRelation_11 : decode cX11_hasRelation 11 = .ok (.aload_n 0, 1) := by decide +kernel
theorem dX11_hasRelation_12 : decode cX11_hasRelation 12 = .ok (.getfield 35, 3) := by decide +kernel
theorem dX11_hasRelation_15 : decode cX11_hasRelation 15 = .ok (.iload_n 1, 1) := by decide +kernel
theorem dX11_hasRelation_16 : decode cX11_hasRelation 16 = .ok (.iaload, 1) := by decide +kernel
theorem dX11_hasRelation_17 : decode cX11_hasRelation 17 = .ok (.bipush 20, 2) := by decide +kernel
theorem dX11_hasRelation_19 : decode cX11_hasRelation 19 = .ok (.if_icmp .eq 22, 3) := by decide +kernel
theorem dX11_hasRelation_22 : decode cX11_hasRelation 22 = .ok (.aload_n 0, 1) := by decide +kernel
theorem dX11_hasRelation_23 : decode cX11_hasRelation 23 = .ok (.getfield 35, 3) := by decide +kernel
theorem dX11_hasRelation_26 : decode cX11_hasRelation 26 = .ok (.iload_n 1, 1) := by decide +kernel
theorem dX11_hasRelation_27 : decode cX11_hasRelation 27 = .ok (.iaload, 1) := by decide +kernel
theorem dX11_hasRelation_28 : decode cX11_hasRelation 28 = .ok (.invokestatic 307, 3) := by decide +kernel
theorem dX11_hasRelation_31 : decode cX11_hasRelation 31 = .ok (.iconst 4, 1) := by decide +kernel
theorem dX11_hasRelation_32 : decode cX11_hasRelation 32 = .ok (.if_icmp .le 9, 3) := by decide +kernel
theorem dX11_hasRelation_35 : decode cX11_hasRelation 35 = .ok (.iinc 1 (-1), 3) := by decide +kernel
theorem dX11_hasRelation_38 : decode cX11_hasRelation 38 = .ok (.goto (-31), 3) := by decide +kernel
theorem dX11_hasRelation_41 : decode cX11_hasRelation 41 = .ok (.iload_n 1, 1) := by decide +kernel
theorem dX11_hasRelation_42 : decode cX11_hasRelation 42 = .ok (.ifCond .lt 31, 3) := by decide +kernel
theorem dX11_hasRelation_45 : decode cX11_hasRelation 45 = .ok (.aload_n 0, 1) := by decide +kernel
theorem dX11_hasRelation_46 : decode cX11_hasRelation 46 = .ok (.getfield 35, 3) := by decide +kernel
theorem dX11_hasRelation_49 : decode cX11_hasRelation 49 = .ok (.iload_n 1, 1) := by decide +kernel
theorem dX11_hasRelation_50 : decode cX11_hasRelation 50 = .ok (.iaload, 1) := by decide +kernel
theorem dX11_hasRelation_51 : decode cX11_hasRelation 51 = .ok (.bipush 20, 2) := by decide +kernel
theorem dX11_hasRelation_53 : decode cX11_hasRelation 53 = .ok (.if_icmp .eq 20, 3) := by decide +kernel
theorem dX11_hasRelation_56 : decode cX11_hasRelation 56 = .ok (.aload_n 0, 1) := by decide +kernel
theorem dX11_hasRelation_57 : decode cX11_hasRelation 57 = .ok (.getfield 35, 3) := by decide +kernel
theorem dX11_hasRelation_60 : decode cX11_hasRelation 60 = .ok (.iload_n 1, 1) := by decide +kernel
theorem dX11_hasRelation_61 : decode cX11_hasRelation 61 = .ok (.iaload, 1) := by decide +kernel
theorem dX11_hasRelation_62 : decode cX11_hasRelation 62 = .ok (.invokestatic 307, 3) := by decide +kernel
theorem dX11_hasRelation_65 : decode cX11_hasRelation 65 = .ok (.iconst 4, 1) := by decide +kernel
theorem dX11_hasRelation_66 : decode cX11_hasRelation 66 = .ok (.if_icmp .ne 7, 3) := by decide +kernel
theorem dX11_hasRelation_69 : decode cX11_hasRelation 69 = .ok (.iconst 1, 1) := by decide +kernel
theorem dX11_hasRelation_70 : decode cX11_hasRelation 70 = .ok (.goto 4, 3) := by decide +kernel
theorem dX11_hasRelation_73 : decode cX11_hasRelation 73 = .ok (.iconst 0, 1) := by decide +kernel
theorem dX11_hasRelation_74 : decode cX11_hasRelation 74 = .ok (.ireturn, 1) := by decide +kernel
theorem dX11_mayNot_0 : decode cX11_mayNot 0 = .ok (.aload_n 0, 1) := by decide +kernel
theorem dX11_mayNot_1 : decode cX11_mayNot 1 = .ok (.getfield 304, 3) := by decide +kernel
theorem dX11_mayNot_4 : decode cX11_mayNot 4 = .ok (.ifCond .eq 37, 3) := by decide +kernel
theorem dX11_mayNot_7 : decode cX11_mayNot 7 = .ok (.aload_n 0, 1) := by decide +kernel
theorem dX11_mayNot_8 : decode cX11_mayNot 8 = .ok (.getfield 35, 3) := by decide +kernel
theorem dX11_mayNot_11 : decode cX11_mayNot 11 = .ok (.aload_n 0, 1) := by decide +kernel
theorem dX11_mayNot_12 : decode cX11_mayNot 12 = .ok (.getfield 304, 3) := by decide +kernel
theorem dX11_mayNot_15 : decode cX11_mayNot 15 = .ok (.iconst 1, 1) := by decide +kernel
theorem dX11_mayNot_16 : decode cX11_mayNot 16 = .ok (.isub, 1) := by decide +kernel
theorem dX11_mayNot_17 : decode cX11_mayNot 17 = .ok (.iaload, 1) := by decide +kernel
theorem dX11_mayNot_18 : decode cX11_mayNot 18 = .ok (.bipush 20, 2) := by decide +kernel
theorem dX11_mayNot_20 : decode cX11_mayNot 20 = .ok (.if_icmp .eq 21, 3) := by decide +kernel
theorem dX11_mayNot_23 : decode cX11_mayNot 23 = .ok (.aload_n 0, 1) := by decide +kernel
theorem dX11_mayNot_24 : decode cX11_mayNot 24 = .ok (.getfield 35, 3) := by decide +kernel
theorem dX11_mayNot_27 : decode cX11_mayNot 27 = .ok (.aload_n 0, 1) := by decide +kernel
theorem dX11_mayNot_28 : decode cX11_mayNot 28 = .ok (.getfield 304, 3) := by decide +kernel
theorem dX11_mayNot_31 : decode cX11_mayNot 31 = .ok (.iconst 1, 1) := by decide +kernel
theorem dX11_mayNot_32 : decode cX11_mayNot 32 = .ok (.isub, 1) := by decide +kernel
theorem dX11_mayNot_33 : decode cX11_mayNot 33 = .ok (.iaload, 1) := by decide +kernel
theorem dX11_mayNot_34 : decode cX11_mayNot 34 = .ok (.invokestatic 307, 3) := by decide +kernel
theorem dX11_mayNot_37 : decode cX11_mayNot 37 = .ok (.iconst 4, 1) := by decide +kernel
theorem dX11_mayNot_38 : decode cX11_mayNot 38 = .ok (.if_icmp .ge 7, 3) := by decide +kernel
theorem dX11_mayNot_41 : decode cX11_mayNot 41 = .ok (.iconst 1, 1) := by decide +kernel
theorem dX11_mayNot_42 : decode cX11_mayNot 42 = .ok (.goto 4, 3) := by decide +kernel
theorem dX11_mayNot_45 : decode cX11_mayNot 45 = .ok (.iconst 0, 1) := by decide +kernel
theorem dX11_mayNot_46 : decode cX11_mayNot 46 = .ok (.ireturn, 1) := by decide +kernel
theorem dX11_asked_0 : decode cX11_asked 0 = .ok (.aload_n 0, 1) := by decide +kernel
theorem dX11_asked_1 : decode cX11_asked 1 = .ok (.getfield 211, 3) := by decide +kernel
theorem dX11_asked_4 : decode cX11_asked 4 = .ok (.iconst 1, 1) := by decide +kernel
theorem dX11_asked_5 : decode cX11_asked 5 = .ok (.if_icmp .eq 5, 3) := by decide +kernel
theorem dX11_asked_8 : decode cX11_asked 8 = .ok (.iconst (-1), 1) := by decide +kernel
theorem dX11_asked_9 : decode cX11_asked 9 = .ok (.ireturn, 1) := by decide +kernel
theorem dX11_asked_10 : decode cX11_asked 10 = .ok (.aload_n 0, 1) := by decide +kernel
theorem dX11_asked_11 : decode cX11_asked 11 = .ok (.getfield 204, 3) := by decide +kernel
theorem dX11_asked_14 : decode cX11_asked 14 = .ok (.ldc2_w 247, 3) := by decide +kernel
theorem dX11_asked_17 : decode cX11_asked 17 = .ok (.lcmp, 1) := by decide +kernel
theorem dX11_asked_18 : decode cX11_asked 18 = .ok (.ifCond .ne 5, 3) := by decide +kernel
theorem dX11_asked_21 : decode cX11_asked 21 = .ok (.iconst 0, 1) := by decide +kernel
theorem dX11_asked_22 : decode cX11_asked 22 = .ok (.ireturn, 1) := by decide +kernel
theorem dX11_asked_23 : decode cX11_asked 23 = .ok (.aload_n 0, 1) := by decide +kernel
theorem dX11_asked_24 : decode cX11_asked 24 = .ok (.getfield 204, 3) := by decide +kernel
theorem dX11_asked_27 : decode cX11_asked 27 = .ok (.ldc2_w 249, 3) := by decide +kernel
theorem dX11_asked_30 : decode cX11_asked 30 = .ok (.lcmp, 1) := by decide +kernel
theorem dX11_asked_31 : decode cX11_asked 31 = .ok (.ifCond .ne 5, 3) := by decide +kernel
theorem dX11_asked_34 : decode cX11_asked 34 = .ok (.iconst 1, 1) := by decide +kernel
theorem dX11_asked_35 : decode cX11_asked 35 = .ok (.ireturn, 1) := by decide +kernel
theorem dX11_asked_36 : decode cX11_asked 36 = .ok (.aload_n 0, 1) := by decide +kernel
theorem dX11_asked_37 : decode cX11_asked 37 = .ok (.getfield 204, 3) := by decide +kernel
theorem dX11_asked_40 : decode cX11_asked 40 = .ok (.ldc2_w 235, 3) := by decide +kernel
theorem dX11_asked_43 : decode cX11_asked 43 = .ok (.lcmp, 1) := by decide +kernel
theorem dX11_asked_44 : decode cX11_asked 44 = .ok (.ifCond .ne 5, 3) := by decide +kernel
theorem dX11_asked_47 : decode cX11_asked 47 = .ok (.iconst 2, 1) := by decide +kernel
theorem dX11_asked_48 : decode cX11_asked 48 = .ok (.ireturn, 1) := by decide +kernel
theorem dX11_asked_49 : decode cX11_asked 49 = .ok (.aload_n 0, 1) := by decide +kernel
theorem dX11_asked_50 : decode cX11_asked 50 = .ok (.getfield 204, 3) := by decide +kernel
theorem dX11_asked_53 : decode cX11_asked 53 = .ok (.ldc2_w 237, 3) := by decide +kernel
theorem dX11_asked_56 : decode cX11_asked 56 = .ok (.lcmp, 1) := by decide +kernel
theorem dX11_asked_57 : decode cX11_asked 57 = .ok (.ifCond .ne 5, 3) := by decide +kernel
theorem dX11_asked_60 : decode cX11_asked 60 = .ok (.iconst 3, 1) := by decide +kernel
theorem dX11_asked_61 : decode cX11_asked 61 = .ok (.ireturn, 1) := by decide +kernel
theorem dX11_asked_62 : decode cX11_asked 62 = .ok (.aload_n 0, 1) := by decide +kernel
theorem dX11_asked_63 : decode cX11_asked 63 = .ok (.getfield 204, 3) := by decide +kernel
theorem dX11_asked_66 : decode cX11_asked 66 = .ok (.ldc2_w 263, 3) := by decide +kernel
theorem dX11_asked_69 : decode cX11_asked 69 = .ok (.lcmp, 1) := by decide +kernel
theorem dX11_asked_70 : decode cX11_asked 70 = .ok (.ifCond .ne 5, 3) := by decide +kernel
theorem dX11_asked_73 : decode cX11_asked 73 = .ok (.iconst 4, 1) := by decide +kernel
theorem dX11_asked_74 : decode cX11_asked 74 = .ok (.ireturn, 1) := by decide +kernel
theorem dX11_asked_75 : decode cX11_asked 75 = .ok (.aload_n 0, 1) := by decide +kernel
theorem dX11_asked_76 : decode cX11_asked 76 = .ok (.getfield 204, 3) := by decide +kernel
theorem dX11_asked_79 : decode cX11_asked 79 = .ok (.ldc2_w 265, 3) := by decide +kernel
theorem dX11_asked_82 : decode cX11_asked 82 = .ok (.lcmp, 1) := by decide +kernel
theorem dX11_asked_83 : decode cX11_asked 83 = .ok (.ifCond .ne 5, 3) := by decide +kernel
theorem dX11_asked_86 : decode cX11_asked 86 = .ok (.iconst 5, 1) := by decide +kernel
theorem dX11_asked_87 : decode cX11_asked 87 = .ok (.ireturn, 1) := by decide +kernel
theorem dX11_asked_88 : decode cX11_asked 88 = .ok (.aload_n 0, 1) := by decide +kernel
theorem dX11_asked_89 : decode cX11_asked 89 = .ok (.getfield 204, 3) := by decide +kernel
theorem dX11_asked_92 : decode cX11_asked 92 = .ok (.ldc2_w 259, 3) := by decide +kernel
theorem dX11_asked_95 : decode cX11_asked 95 = .ok (.lcmp, 1) := by decide +kernel
theorem dX11_asked_96 : decode cX11_asked 96 = .ok (.ifCond .ne 6, 3) := by decide +kernel
theorem dX11_asked_99 : decode cX11_asked 99 = .ok (.bipush 6, 2) := by decide +kernel
theorem dX11_asked_101 : decode cX11_asked 101 = .ok (.ireturn, 1) := by decide +kernel
theorem dX11_asked_102 : decode cX11_asked 102 = .ok (.aload_n 0, 1) := by decide +kernel
theorem dX11_asked_103 : decode cX11_asked 103 = .ok (.getfield 204, 3) := by decide +kernel
theorem dX11_asked_106 : decode cX11_asked 106 = .ok (.ldc2_w 257, 3) := by decide +kernel
theorem dX11_asked_109 : decode cX11_asked 109 = .ok (.lcmp, 1) := by decide +kernel
theorem dX11_asked_110 : decode cX11_asked 110 = .ok (.ifCond .ne 6, 3) := by decide +kernel
theorem dX11_asked_113 : decode cX11_asked 113 = .ok (.bipush 7, 2) := by decide +kernel
theorem dX11_asked_115 : decode cX11_asked 115 = .ok (.ireturn, 1) := by decide +kernel
theorem dX11_asked_116 : decode cX11_asked 116 = .ok (.aload_n 0, 1) := by decide +kernel
theorem dX11_asked_117 : decode cX11_asked 117 = .ok (.getfield 204, 3) := by decide +kernel
theorem dX11_asked_120 : decode cX11_asked 120 = .ok (.ldc2_w 267, 3) := by decide +kernel
theorem dX11_asked_123 : decode cX11_asked 123 = .ok (.lcmp, 1) := by decide +kernel
theorem dX11_asked_124 : decode cX11_asked 124 = .ok (.ifCond .ne 6, 3) := by decide +kernel
theorem dX11_asked_127 : decode cX11_asked 127 = .ok (.bipush 8, 2) := by decide +kernel
theorem dX11_asked_129 : decode cX11_asked 129 = .ok (.ireturn, 1) := by decide +kernel
theorem dX11_asked_130 : decode cX11_asked 130 = .ok (.aload_n 0, 1) := by decide +kernel
theorem dX11_asked_131 : decode cX11_asked 131 = .ok (.getfield 204, 3) := by decide +kernel
theorem dX11_asked_134 : decode cX11_asked 134 = .ok (.ldc2_w 231, 3) := by decide +kernel
theorem dX11_asked_137 : decode cX11_asked 137 = .ok (.lcmp, 1) := by decide +kernel
theorem dX11_asked_138 : decode cX11_asked 138 = .ok (.ifCond .ne 8, 3) := by decide +kernel
theorem dX11_asked_141 : decode cX11_asked 141 = .ok (.bipush 9, 2) := by decide +kernel
theorem dX11_asked_143 : decode cX11_asked 143 = .ok (.goto 4, 3) := by decide +kernel
theorem dX11_asked_146 : decode cX11_asked 146 = .ok (.iconst (-1), 1) := by decide +kernel
theorem dX11_asked_147 : decode cX11_asked 147 = .ok (.ireturn, 1) := by decide +kernel
theorem dX11_isFull_0 : decode cX11_isFull 0 = .ok (.aload_n 0, 1) := by decide +kernel
theorem dX11_isFull_1 : decode cX11_isFull 1 = .ok (.getfield 317, 3) := by decide +kernel
theorem dX11_isFull_4 : decode cX11_isFull 4 = .ok (.bipush 90, 2) := by decide +kernel
theorem dX11_isFull_6 : decode cX11_isFull 6 = .ok (.if_icmp .eq 12, 3) := by decide +kernel
theorem dX11_isFull_9 : decode cX11_isFull 9 = .ok (.aload_n 0, 1) := by decide +kernel
theorem dX11_isFull_10 : decode cX11_isFull 10 = .ok (.getfield 320, 3) := by decide +kernel
theorem dX11_isFull_13 : decode cX11_isFull 13 = .ok (.bipush 30, 2) := by decide +kernel
theorem dX11_isFull_15 : decode cX11_isFull 15 = .ok (.if_icmp .ne 7, 3) := by decide +kernel
theorem dX11_isFull_18 : decode cX11_isFull 18 = .ok (.iconst 1, 1) := by decide +kernel
theorem dX11_isFull_19 : decode cX11_isFull 19 = .ok (.goto 4, 3) := by decide +kernel
theorem dX11_isFull_22 : decode cX11_isFull 22 = .ok (.iconst 0, 1) := by decide +kernel
theorem dX11_isFull_23 : decode cX11_isFull 23 = .ok (.ireturn, 1) := by decide +kernel
theorem dX11_countUnit_0 : decode cX11_countUnit 0 = .ok (.aload_n 0, 1) := by decide +kernel
theorem dX11_countUnit_1 : decode cX11_countUnit 1 = .ok (.dup, 1) := by decide +kernel
theorem dX11_countUnit_2 : decode cX11_countUnit 2 = .ok (.getfield 317, 3) := by decide +kernel
theorem dX11_countUnit_5 : decode cX11_countUnit 5 = .ok (.iconst 1, 1) := by decide +kernel
theorem dX11_countUnit_6 : decode cX11_countUnit 6 = .ok (.iadd, 1) := by decide +kernel
theorem dX11_countUnit_7 : decode cX11_countUnit 7 = .ok (.putfield 317, 3) := by decide +kernel
theorem dX11_countUnit_10 : decode cX11_countUnit 10 = .ok (.aload_n 0, 1) := by decide +kernel
theorem dX11_countUnit_11 : decode cX11_countUnit 11 = .ok (.dup, 1) := by decide +kernel
theorem dX11_countUnit_12 : decode cX11_countUnit 12 = .ok (.getfield 320, 3) := by decide +kernel
theorem dX11_countUnit_15 : decode cX11_countUnit 15 = .ok (.iconst 1, 1) := by decide +kernel
theorem dX11_countUnit_16 : decode cX11_countUnit 16 = .ok (.iadd, 1) := by decide +kernel
theorem dX11_countUnit_17 : decode cX11_countUnit 17 = .ok (.putfield 320, 3) := by decide +kernel
theorem dX11_countUnit_20 : decode cX11_countUnit 20 = .ok (.return_, 1) := by decide +kernel
theorem dX11_openUp_0 : decode cX11_openUp 0 = .ok (.aload_n 0, 1) := by decide +kernel
theorem dX11_openUp_1 : decode cX11_openUp 1 = .ok (.getfield 35, 3) := by decide +kernel
theorem dX11_openUp_4 : decode cX11_openUp 4 = .ok (.aload_n 0, 1) := by decide +kernel
theorem dX11_openUp_5 : decode cX11_openUp 5 = .ok (.getfield 304, 3) := by decide +kernel
theorem dX11_openUp_8 : decode cX11_openUp 8 = .ok (.iload_n 1, 1) := by decide +kernel
theorem dX11_openUp_9 : decode cX11_openUp 9 = .ok (.iastore, 1) := by decide +kernel
theorem dX11_openUp_10 : decode cX11_openUp 10 = .ok (.aload_n 0, 1) := by decide +kernel
theorem dX11_openUp_11 : decode cX11_openUp 11 = .ok (.dup, 1) := by decide +kernel
theorem dX11_openUp_12 : decode cX11_openUp 12 = .ok (.getfield 304, 3) := by decide +kernel
theorem dX11_openUp_15 : decode cX11_openUp 15 = .ok (.iconst 1, 1) := by decide +kernel
theorem dX11_openUp_16 : decode cX11_openUp 16 = .ok (.iadd, 1) := by decide +kernel
theorem dX11_openUp_17 : decode cX11_openUp 17 = .ok (.putfield 304, 3) := by decide +kernel
theorem dX11_openUp_20 : decode cX11_openUp 20 = .ok (.aload_n 0, 1) := by decide +kernel
theorem dX11_openUp_21 : decode cX11_openUp 21 = .ok (.dup, 1) := by decide +kernel
theorem dX11_openUp_22 : decode cX11_openUp 22 = .ok (.getfield 314, 3) := by decide +kernel
theorem dX11_openUp_25 : decode cX11_openUp 25 = .ok (.iconst 1, 1) := by decide +kernel
theorem dX11_openUp_26 : decode cX11_openUp 26 = .ok (.iadd, 1) := by decide +kernel
theorem dX11_openUp_27 : decode cX11_openUp 27 = .ok (.putfield 314, 3) := by decide +kernel
theorem dX11_openUp_30 : decode cX11_openUp 30 = .ok (.aload_n 0, 1) := by decide +kernel
theorem dX11_openUp_31 : decode cX11_openUp 31 = .ok (.getfield 224, 3) := by decide +kernel
theorem dX11_openUp_34 : decode cX11_openUp 34 = .ok (.ifCond .ne 7, 3) := by decide +kernel
theorem dX11_openUp_37 : decode cX11_openUp 37 = .ok (.aload_n 0, 1) := by decide +kernel
theorem dX11_openUp_38 : decode cX11_openUp 38 = .ok (.invokevirtual 287, 3) := by decide +kernel
theorem dX11_openUp_41 : decode cX11_openUp 41 = .ok (.return_, 1) := by decide +kernel
theorem dX11_unit_0 : decode cX11_unit 0 = .ok (.iconst 1, 1) := by decide +kernel
theorem dX11_unit_1 : decode cX11_unit 1 = .ok (.istore_n 1, 1) := by decide +kernel
theorem dX11_unit_2 : decode cX11_unit 2 = .ok (.iload_n 1, 1) := by decide +kernel
theorem dX11_unit_3 : decode cX11_unit 3 = .ok (.ifCond .eq 98, 3) := by decide +kernel
theorem dX11_unit_6 : decode cX11_unit 6 = .ok (.aload_n 0, 1) := by decide +kernel
theorem dX11_unit_7 : decode cX11_unit 7 = .ok (.getfield 224, 3) := by decide +kernel
theorem dX11_unit_10 : decode cX11_unit 10 = .ok (.ifCond .ne 91, 3) := by decide +kernel
theorem dX11_unit_13 : decode cX11_unit 13 = .ok (.aload_n 0, 1) := by decide +kernel
theorem dX11_unit_14 : decode cX11_unit 14 = .ok (.ldc2_w 277, 3) := by decide +kernel
theorem dX11_unit_17 : decode cX11_unit 17 = .ok (.invokevirtual 283, 3) := by decide +kernel
theorem dX11_unit_20 : decode cX11_unit 20 = .ok (.ifCond .eq 33, 3) := by decide +kernel
theorem dX11_unit_23 : decode cX11_unit 23 = .ok (.aload_n 0, 1) := by decide +kernel
theorem dX11_unit_24 : decode cX11_unit 24 = .ok (.invokevirtual 323, 3) := by decide +kernel
theorem dX11_unit_27 : decode cX11_unit 27 = .ok (.ifCond .eq 26, 3) := by decide +kernel
theorem dX11_unit_30 : decode cX11_unit 30 = .ok (.aload_n 0, 1) := by decide +kernel
theorem dX11_unit_31 : decode cX11_unit 31 = .ok (.getfield 314, 3) := by decide +kernel
theorem dX11_unit_34 : decode cX11_unit 34 = .ok (.bipush 6, 2) := by decide +kernel
theorem dX11_unit_36 : decode cX11_unit 36 = .ok (.if_icmp .le 8, 3) := by decide +kernel
theorem dX11_unit_39 : decode cX11_unit 39 = .ok (.aload_n 0, 1) := by decide +kernel
theorem dX11_unit_40 : decode cX11_unit 40 = .ok (.iconst 2, 1) := by decide +kernel
theorem dX11_unit_41 : decode cX11_unit 41 = .ok (.invokevirtual 290, 3) := by decide +kernel
theorem dX11_unit_44 : decode cX11_unit 44 = .ok (.aload_n 0, 1) := by decide +kernel
theorem dX11_unit_45 : decode cX11_unit 45 = .ok (.bipush 21, 2) := by decide +kernel
theorem dX11_unit_47 : decode cX11_unit 47 = .ok (.invokevirtual 326, 3) := by decide +kernel
theorem dX11_unit_50 : decode cX11_unit 50 = .ok (.goto (-48), 3) := by decide +kernel
theorem dX11_unit_53 : decode cX11_unit 53 = .ok (.aload_n 0, 1) := by decide +kernel
theorem dX11_unit_54 : decode cX11_unit 54 = .ok (.getfield 211, 3) := by decide +kernel
theorem dX11_unit_57 : decode cX11_unit 57 = .ok (.bipush 40, 2) := by decide +kernel
theorem dX11_unit_59 : decode cX11_unit 59 = .ok (.if_icmp .ne 37, 3) := by decide +kernel
theorem dX11_unit_62 : decode cX11_unit 62 = .ok (.aload_n 0, 1) := by decide +kernel
theorem dX11_unit_63 : decode cX11_unit 63 = .ok (.invokevirtual 329, 3) := by decide +kernel
theorem dX11_unit_66 : decode cX11_unit 66 = .ok (.ifCond .ne 12, 3) := by decide +kernel
theorem dX11_unit_69 : decode cX11_unit 69 = .ok (.aload_n 0, 1) := by decide +kernel
theorem dX11_unit_70 : decode cX11_unit 70 = .ok (.getfield 314, 3) := by decide +kernel
theorem dX11_unit_73 : decode cX11_unit 73 = .ok (.bipush 6, 2) := by decide +kernel
theorem dX11_unit_75 : decode cX11_unit 75 = .ok (.if_icmp .le 8, 3) := by decide +kernel
theorem dX11_unit_78 : decode cX11_unit 78 = .ok (.aload_n 0, 1) := by decide +kernel
theorem dX11_unit_79 : decode cX11_unit 79 = .ok (.iconst 2, 1) := by decide +kernel
theorem dX11_unit_80 : decode cX11_unit 80 = .ok (.invokevirtual 290, 3) := by decide +kernel
theorem dX11_unit_83 : decode cX11_unit 83 = .ok (.aload_n 0, 1) := by decide +kernel
theorem dX11_unit_84 : decode cX11_unit 84 = .ok (.invokevirtual 332, 3) := by decide +kernel
theorem dX11_unit_87 : decode cX11_unit 87 = .ok (.aload_n 0, 1) := by decide +kernel
theorem dX11_unit_88 : decode cX11_unit 88 = .ok (.bipush 20, 2) := by decide +kernel
theorem dX11_unit_90 : decode cX11_unit 90 = .ok (.invokevirtual 326, 3) := by decide +kernel
theorem dX11_unit_93 : decode cX11_unit 93 = .ok (.goto (-91), 3) := by decide +kernel
theorem dX11_unit_96 : decode cX11_unit 96 = .ok (.iconst 0, 1) := by decide +kernel
theorem dX11_unit_97 : decode cX11_unit 97 = .ok (.istore_n 1, 1) := by decide +kernel
theorem dX11_unit_98 : decode cX11_unit 98 = .ok (.goto (-96), 3) := by decide +kernel
theorem dX11_unit_101 : decode cX11_unit 101 = .ok (.aload_n 0, 1) := by decide +kernel
theorem dX11_unit_102 : decode cX11_unit 102 = .ok (.getfield 224, 3) := by decide +kernel
theorem dX11_unit_105 : decode cX11_unit 105 = .ok (.ifCond .le 4, 3) := by decide +kernel
theorem dX11_unit_108 : decode cX11_unit 108 = .ok (.return_, 1) := by decide +kernel
theorem dX11_unit_109 : decode cX11_unit 109 = .ok (.aload_n 0, 1) := by decide +kernel
theorem dX11_unit_110 : decode cX11_unit 110 = .ok (.invokevirtual 335, 3) := by decide +kernel
theorem dX11_unit_113 : decode cX11_unit 113 = .ok (.istore_n 2, 1) := by decide +kernel
theorem dX11_unit_114 : decode cX11_unit 114 = .ok (.aload_n 0, 1) := by decide +kernel
theorem dX11_unit_115 : decode cX11_unit 115 = .ok (.getfield 211, 3) := by decide +kernel
theorem dX11_unit_118 : decode cX11_unit 118 = .ok (.iconst 2, 1) := by decide +kernel
theorem dX11_unit_119 : decode cX11_unit 119 = .ok (.if_icmp .eq 7, 3) := by decide +kernel
theorem dX11_unit_122 : decode cX11_unit 122 = .ok (.iload_n 2, 1) := by decide +kernel
theorem dX11_unit_123 : decode cX11_unit 123 = .ok (.ifCond .lt 10, 3) := by decide +kernel
theorem dX11_unit_126 : decode cX11_unit 126 = .ok (.aload_n 0, 1) := by decide +kernel
theorem dX11_unit_127 : decode cX11_unit 127 = .ok (.invokevirtual 329, 3) := by decide +kernel
theorem dX11_unit_130 : decode cX11_unit 130 = .ok (.ifCond .eq 8, 3) := by decide +kernel
theorem dX11_unit_133 : decode cX11_unit 133 = .ok (.aload_n 0, 1) := by decide +kernel
theorem dX11_unit_134 : decode cX11_unit 134 = .ok (.iconst 2, 1) := by decide +kernel
theorem dX11_unit_135 : decode cX11_unit 135 = .ok (.invokevirtual 290, 3) := by decide +kernel
theorem dX11_unit_138 : decode cX11_unit 138 = .ok (.aload_n 0, 1) := by decide +kernel
theorem dX11_unit_139 : decode cX11_unit 139 = .ok (.getfield 224, 3) := by decide +kernel
theorem dX11_unit_142 : decode cX11_unit 142 = .ok (.ifCond .le 4, 3) := by decide +kernel
theorem dX11_unit_145 : decode cX11_unit 145 = .ok (.return_, 1) := by decide +kernel
theorem dX11_unit_146 : decode cX11_unit 146 = .ok (.aload_n 0, 1) := by decide +kernel
theorem dX11_unit_147 : decode cX11_unit 147 = .ok (.invokevirtual 332, 3) := by decide +kernel
theorem dX11_unit_150 : decode cX11_unit 150 = .ok (.aload_n 0, 1) := by decide +kernel
theorem dX11_unit_151 : decode cX11_unit 151 = .ok (.iload_n 2, 1) := by decide +kernel
theorem dX11_unit_152 : decode cX11_unit 152 = .ok (.ifCond .ge 7, 3) := by decide +kernel
theorem dX11_unit_155 : decode cX11_unit 155 = .ok (.iconst 0, 1) := by decide +kernel
theorem dX11_unit_156 : decode cX11_unit 156 = .ok (.goto 4, 3) := by decide +kernel
theorem dX11_unit_159 : decode cX11_unit 159 = .ok (.iconst 1, 1) := by decide +kernel
theorem dX11_unit_160 : decode cX11_unit 160 = .ok (.iload_n 2, 1) := by decide +kernel
theorem dX11_unit_161 : decode cX11_unit 161 = .ok (.ifCond .ge 10, 3) := by decide +kernel
theorem dX11_unit_164 : decode cX11_unit 164 = .ok (.aload_n 0, 1) := by decide +kernel
theorem dX11_unit_165 : decode cX11_unit 165 = .ok (.getfield 208, 3) := by decide +kernel
theorem dX11_unit_168 : decode cX11_unit 168 = .ok (.goto 4, 3) := by decide +kernel
theorem dX11_unit_171 : decode cX11_unit 171 = .ok (.iload_n 2, 1) := by decide +kernel
theorem dX11_unit_172 : decode cX11_unit 172 = .ok (.invokevirtual 310, 3) := by decide +kernel
theorem dX11_unit_175 : decode cX11_unit 175 = .ok (.aload_n 0, 1) := by decide +kernel
theorem dX11_unit_176 : decode cX11_unit 176 = .ok (.invokevirtual 287, 3) := by decide +kernel
theorem dX11_unit_179 : decode cX11_unit 179 = .ok (.return_, 1) := by decide +kernel
theorem dX11_sign_0 : decode cX11_sign 0 = .ok (.aload_n 0, 1) := by decide +kernel
theorem dX11_sign_1 : decode cX11_sign 1 = .ok (.ldc2_w 273, 3) := by decide +kernel
theorem dX11_sign_4 : decode cX11_sign 4 = .ok (.invokevirtual 283, 3) := by decide +kernel
theorem dX11_sign_7 : decode cX11_sign 7 = .ok (.ifCond .eq 6, 3) := by decide +kernel
theorem dX11_sign_10 : decode cX11_sign 10 = .ok (.bipush 38, 2) := by decide +kernel
theorem dX11_sign_12 : decode cX11_sign 12 = .ok (.ireturn, 1) := by decide +kernel
theorem dX11_sign_13 : decode cX11_sign 13 = .ok (.aload_n 0, 1) := by decide +kernel
theorem dX11_sign_14 : decode cX11_sign 14 = .ok (.ldc2_w 275, 3) := by decide +kernel
theorem dX11_sign_17 : decode cX11_sign 17 = .ok (.invokevirtual 283, 3) := by decide +kernel
theorem dX11_sign_20 : decode cX11_sign 20 = .ok (.ifCond .eq 6, 3) := by decide +kernel
theorem dX11_sign_23 : decode cX11_sign 23 = .ok (.bipush 124, 2) := by decide +kernel
theorem dX11_sign_25 : decode cX11_sign 25 = .ok (.ireturn, 1) := by decide +kernel
theorem dX11_sign_26 : decode cX11_sign 26 = .ok (.aload_n 0, 1) := by decide +kernel
theorem dX11_sign_27 : decode cX11_sign 27 = .ok (.getfield 211, 3) := by decide +kernel
theorem dX11_sign_30 : decode cX11_sign 30 = .ok (.bipush 60, 2) := by decide +kernel
theorem dX11_sign_32 : decode cX11_sign 32 = .ok (.if_icmp .eq 66, 3) := by decide +kernel
theorem dX11_sign_35 : decode cX11_sign 35 = .ok (.aload_n 0, 1) := by decide +kernel
theorem dX11_sign_36 : decode cX11_sign 36 = .ok (.getfield 211, 3) := by decide +kernel
theorem dX11_sign_39 : decode cX11_sign 39 = .ok (.bipush 62, 2) := by decide +kernel
theorem dX11_sign_41 : decode cX11_sign 41 = .ok (.if_icmp .eq 57, 3) := by decide +kernel
theorem dX11_sign_44 : decode cX11_sign 44 = .ok (.aload_n 0, 1) := by decide +kernel
theorem dX11_sign_45 : decode cX11_sign 45 = .ok (.getfield 211, 3) := by decide +kernel
theorem dX11_sign_48 : decode cX11_sign 48 = .ok (.bipush 61, 2) := by decide +kernel
theorem dX11_sign_50 : decode cX11_sign 50 = .ok (.if_icmp .eq 48, 3) := by decide +kernel
theorem dX11_sign_53 : decode cX11_sign 53 = .ok (.aload_n 0, 1) := by decide +kernel
theorem dX11_sign_54 : decode cX11_sign 54 = .ok (.getfield 211, 3) := by decide +kernel
theorem dX11_sign_57 : decode cX11_sign 57 = .ok (.bipush 43, 2) := by decide +kernel
theorem dX11_sign_59 : decode cX11_sign 59 = .ok (.if_icmp .eq 39, 3) := by decide +kernel
theorem dX11_sign_62 : decode cX11_sign 62 = .ok (.aload_n 0, 1) := by decide +kernel
theorem dX11_sign_63 : decode cX11_sign 63 = .ok (.getfield 211, 3) := by decide +kernel
theorem dX11_sign_66 : decode cX11_sign 66 = .ok (.bipush 45, 2) := by decide +kernel
theorem dX11_sign_68 : decode cX11_sign 68 = .ok (.if_icmp .eq 30, 3) := by decide +kernel
theorem dX11_sign_71 : decode cX11_sign 71 = .ok (.aload_n 0, 1) := by decide +kernel
theorem dX11_sign_72 : decode cX11_sign 72 = .ok (.getfield 211, 3) := by decide +kernel
theorem dX11_sign_75 : decode cX11_sign 75 = .ok (.bipush 42, 2) := by decide +kernel
theorem dX11_sign_77 : decode cX11_sign 77 = .ok (.if_icmp .eq 21, 3) := by decide +kernel
theorem dX11_sign_80 : decode cX11_sign 80 = .ok (.aload_n 0, 1) := by decide +kernel
theorem dX11_sign_81 : decode cX11_sign 81 = .ok (.getfield 211, 3) := by decide +kernel
theorem dX11_sign_84 : decode cX11_sign 84 = .ok (.bipush 47, 2) := by decide +kernel
theorem dX11_sign_86 : decode cX11_sign 86 = .ok (.if_icmp .eq 12, 3) := by decide +kernel
theorem dX11_sign_89 : decode cX11_sign 89 = .ok (.aload_n 0, 1) := by decide +kernel
theorem dX11_sign_90 : decode cX11_sign 90 = .ok (.getfield 211, 3) := by decide +kernel
theorem dX11_sign_93 : decode cX11_sign 93 = .ok (.bipush 37, 2) := by decide +kernel
theorem dX11_sign_95 : decode cX11_sign 95 = .ok (.if_icmp .ne 10, 3) := by decide +kernel
theorem dX11_sign_98 : decode cX11_sign 98 = .ok (.aload_n 0, 1) := by decide +kernel
theorem dX11_sign_99 : decode cX11_sign 99 = .ok (.getfield 211, 3) := by decide +kernel
theorem dX11_sign_102 : decode cX11_sign 102 = .ok (.goto 4, 3) := by decide +kernel
theorem dX11_sign_105 : decode cX11_sign 105 = .ok (.iconst 0, 1) := by decide +kernel
theorem dX11_sign_106 : decode cX11_sign 106 = .ok (.ireturn, 1) := by decide +kernel
theorem dX11_hasBracket_0 : decode cX11_hasBracket 0 = .ok (.iconst 0, 1) := by decide +kernel
theorem dX11_hasBracket_1 : decode cX11_hasBracket 1 = .ok (.istore_n 1, 1) := by decide +kernel
theorem dX11_hasBracket_2 : decode cX11_hasBracket 2 = .ok (.iconst 0, 1) := by decide +kernel
theorem dX11_hasBracket_3 : decode cX11_hasBracket 3 = .ok (.istore_n 2, 1) := by decide +kernel
theorem dX11_hasBracket_4 : decode cX11_hasBracket 4 = .ok (.iload_n 2, 1) := by decide +kernel
theorem dX11_hasBracket_5 : decode cX11_hasBracket 5 = .ok (.aload_n 0, 1) := by decide +kernel
theorem dX11_hasBracket_6 : decode cX11_hasBracket 6 = .ok (.getfield 304, 3) := by decide +kernel
theorem dX11_hasBracket_9 : decode cX11_hasBracket 9 = .ok (.if_icmp .ge 30, 3) := by decide +kernel
theorem dX11_hasBracket_12 : decode cX11_hasBracket 12 = .ok (.iload_n 1, 1) := by decide +kernel
theorem dX11_hasBracket_13 : decode cX11_hasBracket 13 = .ok (.ifCond .ne 14, 3) := by decide +kernel
theorem dX11_hasBracket_16 : decode cX11_hasBracket 16 = .ok (.aload_n 0, 1) := by decide +kernel
theorem dX11_hasBracket_17 : decode cX11_hasBracket 17 = .ok (.getfield 35, 3) := by decide +kernel
theorem dX11_hasBracket_20 : decode cX11_hasBracket 20 = .ok (.iload_n 2, 1) := by decide +kernel
theorem dX11_hasBracket_21 : decode cX11_hasBracket 21 = .ok (.iaload, 1) := by decide +kernel
theorem dX11_hasBracket_22 : decode cX11_hasBracket 22 = .ok (.bipush 20, 2) := by decide +kernel
theorem dX11_hasBracket_24 : decode cX11_hasBracket 24 = .ok (.if_icmp .ne 7, 3) := by decide +kernel
theorem dX11_hasBracket_27 : decode cX11_hasBracket 27 = .ok (.iconst 1, 1) := by decide +kernel
theorem dX11_hasBracket_28 : decode cX11_hasBracket 28 = .ok (.goto 4, 3) := by decide +kernel
theorem dX11_hasBracket_31 : decode cX11_hasBracket 31 = .ok (.iconst 0, 1) := by decide +kernel
theorem dX11_hasBracket_32 : decode cX11_hasBracket 32 = .ok (.istore_n 1, 1) := by decide +kernel
theorem dX11_hasBracket_33 : decode cX11_hasBracket 33 = .ok (.iinc 2 1, 3) := by decide +kernel
theorem dX11_hasBracket_36 : decode cX11_hasBracket 36 = .ok (.goto (-32), 3) := by decide +kernel
theorem dX11_hasBracket_39 : decode cX11_hasBracket 39 = .ok (.iload_n 1, 1) := by decide +kernel
theorem dX11_hasBracket_40 : decode cX11_hasBracket 40 = .ok (.ireturn, 1) := by decide +kernel
theorem dX11_formula_0 : decode cX11_formula 0 = .ok (.aload_n 0, 1) := by decide +kernel
theorem dX11_formula_1 : decode cX11_formula 1 = .ok (.iload_n 1, 1) := by decide +kernel
theorem dX11_formula_2 : decode cX11_formula 2 = .ok (.putfield 301, 3) := by decide +kernel
theorem dX11_formula_5 : decode cX11_formula 5 = .ok (.aload_n 0, 1) := by decide +kernel
theorem dX11_formula_6 : decode cX11_formula 6 = .ok (.getfield 23, 3) := by decide +kernel
theorem dX11_formula_9 : decode cX11_formula 9 = .ok (.aload_n 0, 1) := by decide +kernel
theorem dX11_formula_10 : decode cX11_formula 10 = .ok (.getfield 301, 3) := by decide +kernel
theorem dX11_formula_13 : decode cX11_formula 13 = .ok (.iconst 0, 1) := by decide +kernel
theorem dX11_formula_14 : decode cX11_formula 14 = .ok (.iastore, 1) := by decide +kernel
theorem dX11_formula_15 : decode cX11_formula 15 = .ok (.aload_n 0, 1) := by decide +kernel
theorem dX11_formula_16 : decode cX11_formula 16 = .ok (.iconst 0, 1) := by decide +kernel
theorem dX11_formula_17 : decode cX11_formula 17 = .ok (.putfield 304, 3) := by decide +kernel
theorem dX11_formula_20 : decode cX11_formula 20 = .ok (.aload_n 0, 1) := by decide +kernel
theorem dX11_formula_21 : decode cX11_formula 21 = .ok (.iconst 0, 1) := by decide +kernel
theorem dX11_formula_22 : decode cX11_formula 22 = .ok (.putfield 314, 3) := by decide +kernel
theorem dX11_formula_25 : decode cX11_formula 25 = .ok (.aload_n 0, 1) := by decide +kernel
theorem dX11_formula_26 : decode cX11_formula 26 = .ok (.iconst 0, 1) := by decide +kernel
theorem dX11_formula_27 : decode cX11_formula 27 = .ok (.putfield 320, 3) := by decide +kernel
theorem dX11_formula_30 : decode cX11_formula 30 = .ok (.aload_n 0, 1) := by decide +kernel
theorem dX11_formula_31 : decode cX11_formula 31 = .ok (.invokevirtual 339, 3) := by decide +kernel
theorem dX11_formula_34 : decode cX11_formula 34 = .ok (.iconst 1, 1) := by decide +kernel
theorem dX11_formula_35 : decode cX11_formula 35 = .ok (.istore_n 2, 1) := by decide +kernel
theorem dX11_formula_36 : decode cX11_formula 36 = .ok (.iload_n 2, 1) := by decide +kernel
theorem dX11_formula_37 : decode cX11_formula 37 = .ok (.ifCond .eq 126, 3) := by decide +kernel
theorem dX11_formula_40 : decode cX11_formula 40 = .ok (.aload_n 0, 1) := by decide +kernel
theorem dX11_formula_41 : decode cX11_formula 41 = .ok (.getfield 224, 3) := by decide +kernel
theorem dX11_formula_44 : decode cX11_formula 44 = .ok (.ifCond .ne 119, 3) := by decide +kernel
theorem dX11_formula_47 : decode cX11_formula 47 = .ok (.aload_n 0, 1) := by decide +kernel
theorem dX11_formula_48 : decode cX11_formula 48 = .ok (.invokevirtual 342, 3) := by decide +kernel
theorem dX11_formula_51 : decode cX11_formula 51 = .ok (.istore_n 3, 1) := by decide +kernel
theorem dX11_formula_52 : decode cX11_formula 52 = .ok (.aload_n 0, 1) := by decide +kernel
theorem dX11_formula_53 : decode cX11_formula 53 = .ok (.getfield 211, 3) := by decide +kernel
theorem dX11_formula_56 : decode cX11_formula 56 = .ok (.bipush 41, 2) := by decide +kernel
theorem dX11_formula_58 : decode cX11_formula 58 = .ok (.if_icmp .ne 42, 3) := by decide +kernel
theorem dX11_formula_61 : decode cX11_formula 61 = .ok (.aload_n 0, 1) := by decide +kernel
theorem dX11_formula_62 : decode cX11_formula 62 = .ok (.invokevirtual 345, 3) := by decide +kernel
theorem dX11_formula_65 : decode cX11_formula 65 = .ok (.ifCond .eq 35, 3) := by decide +kernel
theorem dX11_formula_68 : decode cX11_formula 68 = .ok (.aload_n 0, 1) := by decide +kernel
theorem dX11_formula_69 : decode cX11_formula 69 = .ok (.iconst 0, 1) := by decide +kernel
theorem dX11_formula_70 : decode cX11_formula 70 = .ok (.invokevirtual 348, 3) := by decide +kernel
theorem dX11_formula_73 : decode cX11_formula 73 = .ok (.aload_n 0, 1) := by decide +kernel
theorem dX11_formula_74 : decode cX11_formula 74 = .ok (.dup, 1) := by decide +kernel
theorem dX11_formula_75 : decode cX11_formula 75 = .ok (.getfield 304, 3) := by decide +kernel
theorem dX11_formula_78 : decode cX11_formula 78 = .ok (.iconst 1, 1) := by decide +kernel
theorem dX11_formula_79 : decode cX11_formula 79 = .ok (.isub, 1) := by decide +kernel
theorem dX11_formula_80 : decode cX11_formula 80 = .ok (.putfield 304, 3) := by decide +kernel
theorem dX11_formula_83 : decode cX11_formula 83 = .ok (.aload_n 0, 1) := by decide +kernel
theorem dX11_formula_84 : decode cX11_formula 84 = .ok (.dup, 1) := by decide +kernel
theorem dX11_formula_85 : decode cX11_formula 85 = .ok (.getfield 314, 3) := by decide +kernel
theorem dX11_formula_88 : decode cX11_formula 88 = .ok (.iconst 1, 1) := by decide +kernel
theorem dX11_formula_89 : decode cX11_formula 89 = .ok (.isub, 1) := by decide +kernel
theorem dX11_formula_90 : decode cX11_formula 90 = .ok (.putfield 314, 3) := by decide +kernel
theorem dX11_formula_93 : decode cX11_formula 93 = .ok (.aload_n 0, 1) := by decide +kernel
theorem dX11_formula_94 : decode cX11_formula 94 = .ok (.invokevirtual 287, 3) := by decide +kernel
theorem dX11_formula_97 : decode cX11_formula 97 = .ok (.goto 63, 3) := by decide +kernel
theorem dX11_formula_100 : decode cX11_formula 100 = .ok (.iload_n 3, 1) := by decide +kernel
theorem dX11_formula_101 : decode cX11_formula 101 = .ok (.ifCond .eq 57, 3) := by decide +kernel
theorem dX11_formula_104 : decode cX11_formula 104 = .ok (.iload_n 3, 1) := by decide +kernel
theorem dX11_formula_105 : decode cX11_formula 105 = .ok (.invokestatic 307, 3) := by decide +kernel
theorem dX11_formula_108 : decode cX11_formula 108 = .ok (.iconst 4, 1) := by decide +kernel
theorem dX11_formula_109 : decode cX11_formula 109 = .ok (.if_icmp .ne 10, 3) := by decide +kernel
theorem dX11_formula_112 : decode cX11_formula 112 = .ok (.aload_n 0, 1) := by decide +kernel
theorem dX11_formula_113 : decode cX11_formula 113 = .ok (.invokevirtual 351, 3) := by decide +kernel
theorem dX11_formula_116 : decode cX11_formula 116 = .ok (.ifCond .ne 42, 3) := by decide +kernel
theorem dX11_formula_119 : decode cX11_formula 119 = .ok (.aload_n 0, 1) := by decide +kernel
theorem dX11_formula_120 : decode cX11_formula 120 = .ok (.iload_n 3, 1) := by decide +kernel
theorem dX11_formula_121 : decode cX11_formula 121 = .ok (.invokestatic 307, 3) := by decide +kernel
theorem dX11_formula_124 : decode cX11_formula 124 = .ok (.invokevirtual 348, 3) := by decide +kernel
theorem dX11_formula_127 : decode cX11_formula 127 = .ok (.aload_n 0, 1) := by decide +kernel
theorem dX11_formula_128 : decode cX11_formula 128 = .ok (.getfield 35, 3) := by decide +kernel
theorem dX11_formula_131 : decode cX11_formula 131 = .ok (.aload_n 0, 1) := by decide +kernel
theorem dX11_formula_132 : decode cX11_formula 132 = .ok (.getfield 304, 3) := by decide +kernel
theorem dX11_formula_135 : decode cX11_formula 135 = .ok (.iload_n 3, 1) := by decide +kernel
theorem dX11_formula_136 : decode cX11_formula 136 = .ok (.iastore, 1) := by decide +kernel
theorem dX11_formula_137 : decode cX11_formula 137 = .ok (.aload_n 0, 1) := by decide +kernel
theorem dX11_formula_138 : decode cX11_formula 138 = .ok (.dup, 1) := by decide +kernel
theorem dX11_formula_139 : decode cX11_formula 139 = .ok (.getfield 304, 3) := by decide +kernel
theorem dX11_formula_142 : decode cX11_formula 142 = .ok (.iconst 1, 1) := by decide +kernel
theorem dX11_formula_143 : decode cX11_formula 143 = .ok (.iadd, 1) := by decide +kernel
theorem dX11_formula_144 : decode cX11_formula 144 = .ok (.putfield 304, 3) := by decide +kernel
theorem dX11_formula_147 : decode cX11_formula 147 = .ok (.aload_n 0, 1) := by decide +kernel
theorem dX11_formula_148 : decode cX11_formula 148 = .ok (.invokevirtual 287, 3) := by decide +kernel
theorem dX11_formula_151 : decode cX11_formula 151 = .ok (.aload_n 0, 1) := by decide +kernel
theorem dX11_formula_152 : decode cX11_formula 152 = .ok (.invokevirtual 339, 3) := by decide +kernel
theorem dX11_formula_155 : decode cX11_formula 155 = .ok (.goto 5, 3) := by decide +kernel
theorem dX11_formula_158 : decode cX11_formula 158 = .ok (.iconst 0, 1) := by decide +kernel
theorem dX11_formula_159 : decode cX11_formula 159 = .ok (.istore_n 2, 1) := by decide +kernel
theorem dX11_formula_160 : decode cX11_formula 160 = .ok (.goto (-124), 3) := by decide +kernel
theorem dX11_formula_163 : decode cX11_formula 163 = .ok (.aload_n 0, 1) := by decide +kernel
theorem dX11_formula_164 : decode cX11_formula 164 = .ok (.getfield 224, 3) := by decide +kernel
theorem dX11_formula_167 : decode cX11_formula 167 = .ok (.ifCond .ne 15, 3) := by decide +kernel
theorem dX11_formula_170 : decode cX11_formula 170 = .ok (.aload_n 0, 1) := by decide +kernel
theorem dX11_formula_171 : decode cX11_formula 171 = .ok (.invokevirtual 345, 3) := by decide +kernel
theorem dX11_formula_174 : decode cX11_formula 174 = .ok (.ifCond .eq 8, 3) := by decide +kernel
theorem dX11_formula_177 : decode cX11_formula 177 = .ok (.aload_n 0, 1) := by decide +kernel
theorem dX11_formula_178 : decode cX11_formula 178 = .ok (.iconst 2, 1) := by decide +kernel
theorem dX11_formula_179 : decode cX11_formula 179 = .ok (.invokevirtual 290, 3) := by decide +kernel
theorem dX11_formula_182 : decode cX11_formula 182 = .ok (.aload_n 0, 1) := by decide +kernel
theorem dX11_formula_183 : decode cX11_formula 183 = .ok (.getfield 224, 3) := by decide +kernel
theorem dX11_formula_186 : decode cX11_formula 186 = .ok (.ifCond .ne 8, 3) := by decide +kernel
theorem dX11_formula_189 : decode cX11_formula 189 = .ok (.aload_n 0, 1) := by decide +kernel
theorem dX11_formula_190 : decode cX11_formula 190 = .ok (.iconst 0, 1) := by decide +kernel
theorem dX11_formula_191 : decode cX11_formula 191 = .ok (.invokevirtual 348, 3) := by decide +kernel
theorem dX11_formula_194 : decode cX11_formula 194 = .ok (.return_, 1) := by decide +kernel
theorem dX11_truth_0 : decode cX11_truth 0 = .ok (.iload_n 0, 1) := by decide +kernel
theorem dX11_truth_1 : decode cX11_truth 1 = .ok (.ifCond .eq 7, 3) := by decide +kernel
theorem dX11_truth_4 : decode cX11_truth 4 = .ok (.iconst 1, 1) := by decide +kernel
theorem dX11_truth_5 : decode cX11_truth 5 = .ok (.goto 4, 3) := by decide +kernel
theorem dX11_truth_8 : decode cX11_truth 8 = .ok (.iconst 0, 1) := by decide +kernel
theorem dX11_truth_9 : decode cX11_truth 9 = .ok (.ireturn, 1) := by decide +kernel
theorem dX11_done_0 : decode cX11_done 0 = .ok (.iload_n 0, 1) := by decide +kernel
theorem dX11_done_1 : decode cX11_done 1 = .ok (.tableswitch 214 37 62 #[143, 197, 214, 214, 214, 127, 119, 214, 123, 214, 131, 214, 214, 214, 214, 214, 214, 214, 214, 214, 214, 214, 214, 155, 183, 169], 119) := by decide +kernel
theorem dX11_done_120 : decode cX11_done 120 = .ok (.iload_n 1, 1) := by decide +kernel
theorem dX11_done_121 : decode cX11_done 121 = .ok (.iload_n 2, 1) := by decide +kernel
theorem dX11_done_122 : decode cX11_done 122 = .ok (.iadd, 1) := by decide +kernel
theorem dX11_done_123 : decode cX11_done 123 = .ok (.ireturn, 1) := by decide +kernel
theorem dX11_done_124 : decode cX11_done 124 = .ok (.iload_n 1, 1) := by decide +kernel
theorem dX11_done_125 : decode cX11_done 125 = .ok (.iload_n 2, 1) := by decide +kernel
theorem dX11_done_126 : decode cX11_done 126 = .ok (.isub, 1) := by decide +kernel
theorem dX11_done_127 : decode cX11_done 127 = .ok (.ireturn, 1) := by decide +kernel
theorem dX11_done_128 : decode cX11_done 128 = .ok (.iload_n 1, 1) := by decide +kernel
theorem dX11_done_129 : decode cX11_done 129 = .ok (.iload_n 2, 1) := by decide +kernel
theorem dX11_done_130 : decode cX11_done 130 = .ok (.imul, 1) := by decide +kernel
theorem dX11_done_131 : decode cX11_done 131 = .ok (.ireturn, 1) := by decide +kernel
theorem dX11_done_132 : decode cX11_done 132 = .ok (.iload_n 2, 1) := by decide +kernel
theorem dX11_done_133 : decode cX11_done 133 = .ok (.ifCond .ne 7, 3) := by decide +kernel
theorem dX11_done_136 : decode cX11_done 136 = .ok (.iconst 0, 1) := by decide +kernel
theorem dX11_done_137 : decode cX11_done 137 = .ok (.goto 6, 3) := by decide +kernel
theorem dX11_done_140 : decode cX11_done 140 = .ok (.iload_n 1, 1) := by decide +kernel
theorem dX11_done_141 : decode cX11_done 141 = .ok (.iload_n 2, 1) := by decide +kernel
theorem dX11_done_142 : decode cX11_done 142 = .ok (.idiv, 1) := by decide +kernel
theorem dX11_done_143 : decode cX11_done 143 = .ok (.ireturn, 1) := by decide +kernel
theorem dX11_done_144 : decode cX11_done 144 = .ok (.iload_n 2, 1) := by decide +kernel
theorem dX11_done_145 : decode cX11_done 145 = .ok (.ifCond .ne 7, 3) := by decide +kernel
theorem dX11_done_148 : decode cX11_done 148 = .ok (.iconst 0, 1) := by decide +kernel
theorem dX11_done_149 : decode cX11_done 149 = .ok (.goto 6, 3) := by decide +kernel
theorem dX11_done_152 : decode cX11_done 152 = .ok (.iload_n 1, 1) := by decide +kernel
theorem dX11_done_153 : decode cX11_done 153 = .ok (.iload_n 2, 1) := by decide +kernel
theorem dX11_done_154 : decode cX11_done 154 = .ok (.irem, 1) := by decide +kernel
theorem dX11_done_155 : decode cX11_done 155 = .ok (.ireturn, 1) := by decide +kernel
theorem dX11_done_156 : decode cX11_done 156 = .ok (.iload_n 1, 1) := by decide +kernel
theorem dX11_done_157 : decode cX11_done 157 = .ok (.iload_n 2, 1) := by decide +kernel
theorem dX11_done_158 : decode cX11_done 158 = .ok (.if_icmp .ge 7, 3) := by decide +kernel
theorem dX11_done_161 : decode cX11_done 161 = .ok (.iconst 1, 1) := by decide +kernel
theorem dX11_done_162 : decode cX11_done 162 = .ok (.goto 4, 3) := by decide +kernel
theorem dX11_done_165 : decode cX11_done 165 = .ok (.iconst 0, 1) := by decide +kernel
theorem dX11_done_166 : decode cX11_done 166 = .ok (.invokestatic 354, 3) := by decide +kernel
theorem dX11_done_169 : decode cX11_done 169 = .ok (.ireturn, 1) := by decide +kernel
theorem dX11_done_170 : decode cX11_done 170 = .ok (.iload_n 1, 1) := by decide +kernel
theorem dX11_done_171 : decode cX11_done 171 = .ok (.iload_n 2, 1) := by decide +kernel
theorem dX11_done_172 : decode cX11_done 172 = .ok (.if_icmp .le 7, 3) := by decide +kernel
theorem dX11_done_175 : decode cX11_done 175 = .ok (.iconst 1, 1) := by decide +kernel
theorem dX11_done_176 : decode cX11_done 176 = .ok (.goto 4, 3) := by decide +kernel
theorem dX11_done_179 : decode cX11_done 179 = .ok (.iconst 0, 1) := by decide +kernel
theorem dX11_done_180 : decode cX11_done 180 = .ok (.invokestatic 354, 3) := by decide +kernel
theorem dX11_done_183 : decode cX11_done 183 = .ok (.ireturn, 1) := by decide +kernel
theorem dX11_done_184 : decode cX11_done 184 = .ok (.iload_n 1, 1) := by decide +kernel
theorem dX11_done_185 : decode cX11_done 185 = .ok (.iload_n 2, 1) := by decide +kernel
theorem dX11_done_186 : decode cX11_done 186 = .ok (.if_icmp .ne 7, 3) := by decide +kernel
theorem dX11_done_189 : decode cX11_done 189 = .ok (.iconst 1, 1) := by decide +kernel
theorem dX11_done_190 : decode cX11_done 190 = .ok (.goto 4, 3) := by decide +kernel
theorem dX11_done_193 : decode cX11_done 193 = .ok (.iconst 0, 1) := by decide +kernel
theorem dX11_done_194 : decode cX11_done 194 = .ok (.invokestatic 354, 3) := by decide +kernel
theorem dX11_done_197 : decode cX11_done 197 = .ok (.ireturn, 1) := by decide +kernel
theorem dX11_done_198 : decode cX11_done 198 = .ok (.iload_n 1, 1) := by decide +kernel
theorem dX11_done_199 : decode cX11_done 199 = .ok (.ifCond .eq 11, 3) := by decide +kernel
theorem dX11_done_202 : decode cX11_done 202 = .ok (.iload_n 2, 1) := by decide +kernel
theorem dX11_done_203 : decode cX11_done 203 = .ok (.ifCond .eq 7, 3) := by decide +kernel
theorem dX11_done_206 : decode cX11_done 206 = .ok (.iconst 1, 1) := by decide +kernel
theorem dX11_done_207 : decode cX11_done 207 = .ok (.goto 4, 3) := by decide +kernel
theorem dX11_done_210 : decode cX11_done 210 = .ok (.iconst 0, 1) := by decide +kernel
theorem dX11_done_211 : decode cX11_done 211 = .ok (.invokestatic 354, 3) := by decide +kernel
theorem dX11_done_214 : decode cX11_done 214 = .ok (.ireturn, 1) := by decide +kernel
theorem dX11_done_215 : decode cX11_done 215 = .ok (.iload_n 1, 1) := by decide +kernel
theorem dX11_done_216 : decode cX11_done 216 = .ok (.ifCond .ne 7, 3) := by decide +kernel
theorem dX11_done_219 : decode cX11_done 219 = .ok (.iload_n 2, 1) := by decide +kernel
theorem dX11_done_220 : decode cX11_done 220 = .ok (.ifCond .eq 7, 3) := by decide +kernel
theorem dX11_done_223 : decode cX11_done 223 = .ok (.iconst 1, 1) := by decide +kernel
theorem dX11_done_224 : decode cX11_done 224 = .ok (.goto 4, 3) := by decide +kernel
theorem dX11_done_227 : decode cX11_done 227 = .ok (.iconst 0, 1) := by decide +kernel
theorem dX11_done_228 : decode cX11_done 228 = .ok (.invokestatic 354, 3) := by decide +kernel
theorem dX11_done_231 : decode cX11_done 231 = .ok (.ireturn, 1) := by decide +kernel
theorem dX11_askOf_0 : decode cX11_askOf 0 = .ok (.iload_n 1, 1) := by decide +kernel
theorem dX11_askOf_1 : decode cX11_askOf 1 = .ok (.tableswitch 128 0 8 #[51, 62, 69, 79, 88, 95, 106, 113, 125], 51) := by decide +kernel
theorem dX11_askOf_52 : decode cX11_askOf 52 = .ok (.aload_n 0, 1) := by decide +kernel
theorem dX11_askOf_53 : decode cX11_askOf 53 = .ok (.getfield 121, 3) := by decide +kernel
theorem dX11_askOf_56 : decode cX11_askOf 56 = .ok (.iconst 5, 1) := by decide +kernel
theorem dX11_askOf_57 : decode cX11_askOf 57 = .ok (.iload_n 3, 1) := by decide +kernel
theorem dX11_askOf_58 : decode cX11_askOf 58 = .ok (.imul, 1) := by decide +kernel
theorem dX11_askOf_59 : decode cX11_askOf 59 = .ok (.iconst 4, 1) := by decide +kernel
theorem dX11_askOf_60 : decode cX11_askOf 60 = .ok (.iadd, 1) := by decide +kernel
theorem dX11_askOf_61 : decode cX11_askOf 61 = .ok (.iaload, 1) := by decide +kernel
theorem dX11_askOf_62 : decode cX11_askOf 62 = .ok (.ireturn, 1) := by decide +kernel
theorem dX11_askOf_63 : decode cX11_askOf 63 = .ok (.aload_n 0, 1) := by decide +kernel
theorem dX11_askOf_64 : decode cX11_askOf 64 = .ok (.getfield 85, 3) := by decide +kernel
theorem dX11_askOf_67 : decode cX11_askOf 67 = .ok (.iload_n 3, 1) := by decide +kernel
theorem dX11_askOf_68 : decode cX11_askOf 68 = .ok (.iaload, 1) := by decide +kernel
theorem dX11_askOf_69 : decode cX11_askOf 69 = .ok (.ireturn, 1) := by decide +kernel
theorem dX11_askOf_70 : decode cX11_askOf 70 = .ok (.aload_n 0, 1) := by decide +kernel
theorem dX11_askOf_71 : decode cX11_askOf 71 = .ok (.getfield 115, 3) := by decide +kernel
theorem dX11_askOf_74 : decode cX11_askOf 74 = .ok (.iload_n 3, 1) := by decide +kernel
theorem dX11_askOf_75 : decode cX11_askOf 75 = .ok (.baload, 1) := by decide +kernel
theorem dX11_askOf_76 : decode cX11_askOf 76 = .ok (.invokestatic 354, 3) := by decide +kernel
theorem dX11_askOf_79 : decode cX11_askOf 79 = .ok (.ireturn, 1) := by decide +kernel
theorem dX11_askOf_80 : decode cX11_askOf 80 = .ok (.aload_n 0, 1) := by decide +kernel
theorem dX11_askOf_81 : decode cX11_askOf 81 = .ok (.iload_n 3, 1) := by decide +kernel
theorem dX11_askOf_82 : decode cX11_askOf 82 = .ok (.invokevirtual 358, 3) := by decide +kernel
theorem dX11_askOf_85 : decode cX11_askOf 85 = .ok (.invokestatic 354, 3) := by decide +kernel
theorem dX11_askOf_88 : decode cX11_askOf 88 = .ok (.ireturn, 1) := by decide +kernel
theorem dX11_askOf_89 : decode cX11_askOf 89 = .ok (.aload_n 0, 1) := by decide +kernel
theorem dX11_askOf_90 : decode cX11_askOf 90 = .ok (.iload_n 2, 1) := by decide +kernel
theorem dX11_askOf_91 : decode cX11_askOf 91 = .ok (.iload_n 3, 1) := by decide +kernel
theorem dX11_askOf_92 : decode cX11_askOf 92 = .ok (.invokevirtual 361, 3) := by decide +kernel
theorem dX11_askOf_95 : decode cX11_askOf 95 = .ok (.ireturn, 1) := by decide +kernel
theorem dX11_askOf_96 : decode cX11_askOf 96 = .ok (.aload_n 0, 1) := by decide +kernel
theorem dX11_askOf_97 : decode cX11_askOf 97 = .ok (.getfield 121, 3) := by decide +kernel
theorem dX11_askOf_100 : decode cX11_askOf 100 = .ok (.iconst 5, 1) := by decide +kernel
theorem dX11_askOf_101 : decode cX11_askOf 101 = .ok (.iload_n 3, 1) := by decide +kernel
theorem dX11_askOf_102 : decode cX11_askOf 102 = .ok (.imul, 1) := by decide +kernel
theorem dX11_askOf_103 : decode cX11_askOf 103 = .ok (.iconst 3, 1) := by decide +kernel
theorem dX11_askOf_104 : decode cX11_askOf 104 = .ok (.iadd, 1) := by decide +kernel
theorem dX11_askOf_105 : decode cX11_askOf 105 = .ok (.iaload, 1) := by decide +kernel
theorem dX11_askOf_106 : decode cX11_askOf 106 = .ok (.ireturn, 1) := by decide +kernel
theorem dX11_askOf_107 : decode cX11_askOf 107 = .ok (.aload_n 0, 1) := by decide +kernel
theorem dX11_askOf_108 : decode cX11_askOf 108 = .ok (.getfield 109, 3) := by decide +kernel
theorem dX11_askOf_111 : decode cX11_askOf 111 = .ok (.iload_n 2, 1) := by decide +kernel
theorem dX11_askOf_112 : decode cX11_askOf 112 = .ok (.iaload, 1) := by decide +kernel
theorem dX11_askOf_113 : decode cX11_askOf 113 = .ok (.ireturn, 1) := by decide +kernel
theorem dX11_askOf_114 : decode cX11_askOf 114 = .ok (.aload_n 0, 1) := by decide +kernel
theorem dX11_askOf_115 : decode cX11_askOf 115 = .ok (.getfield 121, 3) := by decide +kernel
theorem dX11_askOf_118 : decode cX11_askOf 118 = .ok (.bipush 50, 2) := by decide +kernel
theorem dX11_askOf_120 : decode cX11_askOf 120 = .ok (.iconst 3, 1) := by decide +kernel
theorem dX11_askOf_121 : decode cX11_askOf 121 = .ok (.iload_n 2, 1) := by decide +kernel
theorem dX11_askOf_122 : decode cX11_askOf 122 = .ok (.imul, 1) := by decide +kernel
theorem dX11_askOf_123 : decode cX11_askOf 123 = .ok (.iadd, 1) := by decide +kernel
theorem dX11_askOf_124 : decode cX11_askOf 124 = .ok (.iaload, 1) := by decide +kernel
theorem dX11_askOf_125 : decode cX11_askOf 125 = .ok (.ireturn, 1) := by decide +kernel
theorem dX11_askOf_126 : decode cX11_askOf 126 = .ok (.iload 4, 2) := by decide +kernel
theorem dX11_askOf_128 : decode cX11_askOf 128 = .ok (.ireturn, 1) := by decide +kernel
theorem dX11_askOf_129 : decode cX11_askOf 129 = .ok (.iload 5, 2) := by decide +kernel
theorem dX11_askOf_131 : decode cX11_askOf 131 = .ok (.ireturn, 1) := by decide +kernel
theorem dX11_worked_0 : decode cX11_worked 0 = .ok (.iconst 0, 1) := by decide +kernel
theorem dX11_worked_1 : decode cX11_worked 1 = .ok (.istore 6, 2) := by decide +kernel
theorem dX11_worked_3 : decode cX11_worked 3 = .ok (.sipush 320, 3) := by decide +kernel
theorem dX11_worked_6 : decode cX11_worked 6 = .ok (.iload_n 1, 1) := by decide +kernel
theorem dX11_worked_7 : decode cX11_worked 7 = .ok (.imul, 1) := by decide +kernel
theorem dX11_worked_8 : decode cX11_worked 8 = .ok (.istore 7, 2) := by decide +kernel
theorem dX11_worked_10 : decode cX11_worked 10 = .ok (.iload 7, 2) := by decide +kernel
theorem dX11_worked_12 : decode cX11_worked 12 = .ok (.sipush 320, 3) := by decide +kernel
theorem dX11_worked_15 : decode cX11_worked 15 = .ok (.iload_n 1, 1) := by decide +kernel
theorem dX11_worked_16 : decode cX11_worked 16 = .ok (.imul, 1) := by decide +kernel
theorem dX11_worked_17 : decode cX11_worked 17 = .ok (.aload_n 0, 1) := by decide +kernel
theorem dX11_worked_18 : decode cX11_worked 18 = .ok (.getfield 32, 3) := by decide +kernel
theorem dX11_worked_21 : decode cX11_worked 21 = .ok (.iload_n 1, 1) := by decide +kernel
theorem dX11_worked_22 : decode cX11_worked 22 = .ok (.iaload, 1) := by decide +kernel
theorem dX11_worked_23 : decode cX11_worked 23 = .ok (.iadd, 1) := by decide +kernel
theorem dX11_worked_24 : decode cX11_worked 24 = .ok (.if_icmp .ge 161, 3) := by decide +kernel
theorem dX11_worked_27 : decode cX11_worked 27 = .ok (.aload_n 0, 1) := by decide +kernel
theorem dX11_worked_28 : decode cX11_worked 28 = .ok (.getfield 26, 3) := by decide +kernel
theorem dX11_worked_31 : decode cX11_worked 31 = .ok (.iload 7, 2) := by decide +kernel
theorem dX11_worked_33 : decode cX11_worked 33 = .ok (.iaload, 1) := by decide +kernel
theorem dX11_worked_34 : decode cX11_worked 34 = .ok (.ifCond .eq 14, 3) := by decide +kernel
theorem dX11_worked_37 : decode cX11_worked 37 = .ok (.aload_n 0, 1) := by decide +kernel
theorem dX11_worked_38 : decode cX11_worked 38 = .ok (.getfield 26, 3) := by decide +kernel
theorem dX11_worked_41 : decode cX11_worked 41 = .ok (.iload 7, 2) := by decide +kernel
theorem dX11_worked_43 : decode cX11_worked 43 = .ok (.iaload, 1) := by decide +kernel
theorem dX11_worked_44 : decode cX11_worked 44 = .ok (.iconst 1, 1) := by decide +kernel
theorem dX11_worked_45 : decode cX11_worked 45 = .ok (.if_icmp .ne 53, 3) := by decide +kernel
theorem dX11_worked_48 : decode cX11_worked 48 = .ok (.aload_n 0, 1) := by decide +kernel
theorem dX11_worked_49 : decode cX11_worked 49 = .ok (.getfield 38, 3) := by decide +kernel
theorem dX11_worked_52 : decode cX11_worked 52 = .ok (.iload 6, 2) := by decide +kernel
theorem dX11_worked_54 : decode cX11_worked 54 = .ok (.aload_n 0, 1) := by decide +kernel
theorem dX11_worked_55 : decode cX11_worked 55 = .ok (.getfield 26, 3) := by decide +kernel
theorem dX11_worked_58 : decode cX11_worked 58 = .ok (.iload 7, 2) := by decide +kernel
theorem dX11_worked_60 : decode cX11_worked 60 = .ok (.iaload, 1) := by decide +kernel
theorem dX11_worked_61 : decode cX11_worked 61 = .ok (.ifCond .ne 13, 3) := by decide +kernel
theorem dX11_worked_64 : decode cX11_worked 64 = .ok (.aload_n 0, 1) := by decide +kernel
theorem dX11_worked_65 : decode cX11_worked 65 = .ok (.getfield 29, 3) := by decide +kernel
theorem dX11_worked_68 : decode cX11_worked 68 = .ok (.iload 7, 2) := by decide +kernel
theorem dX11_worked_70 : decode cX11_worked 70 = .ok (.iaload, 1) := by decide +kernel
theorem dX11_worked_71 : decode cX11_worked 71 = .ok (.goto 20, 3) := by decide +kernel
theorem dX11_worked_74 : decode cX11_worked 74 = .ok (.aload_n 0, 1) := by decide +kernel
theorem dX11_worked_75 : decode cX11_worked 75 = .ok (.aload_n 0, 1) := by decide +kernel
theorem dX11_worked_76 : decode cX11_worked 76 = .ok (.getfield 29, 3) := by decide +kernel
theorem dX11_worked_79 : decode cX11_worked 79 = .ok (.iload 7, 2) := by decide +kernel
theorem dX11_worked_81 : decode cX11_worked 81 = .ok (.iaload, 1) := by decide +kernel
theorem dX11_worked_82 : decode cX11_worked 82 = .ok (.iload_n 2, 1) := by decide +kernel
theorem dX11_worked_83 : decode cX11_worked 83 = .ok (.iload_n 3, 1) := by decide +kernel
theorem dX11_worked_84 : decode cX11_worked 84 = .ok (.iload 4, 2) := by decide +kernel
theorem dX11_worked_86 : decode cX11_worked 86 = .ok (.iload 5, 2) := by decide +kernel
theorem dX11_worked_88 : decode cX11_worked 88 = .ok (.invokevirtual 364, 3) := by decide +kernel
theorem dX11_worked_91 : decode cX11_worked 91 = .ok (.iastore, 1) := by decide +kernel
theorem dX11_worked_92 : decode cX11_worked 92 = .ok (.iinc 6 1, 3) := by decide +kernel
theorem dX11_worked_95 : decode cX11_worked 95 = .ok (.goto 84, 3) := by decide +kernel
theorem dX11_worked_98 : decode cX11_worked 98 = .ok (.aload_n 0, 1) := by decide +kernel
theorem dX11_worked_99 : decode cX11_worked 99 = .ok (.getfield 26, 3) := by decide +kernel
theorem dX11_worked_102 : decode cX11_worked 102 = .ok (.iload 7, 2) := by decide +kernel
theorem dX11_worked_104 : decode cX11_worked 104 = .ok (.iaload, 1) := by decide +kernel
theorem dX11_worked_105 : decode cX11_worked 105 = .ok (.iconst 2, 1) := by decide +kernel
theorem dX11_worked_106 : decode cX11_worked 106 = .ok (.if_icmp .ne 35, 3) := by decide +kernel
theorem dX11_worked_109 : decode cX11_worked 109 = .ok (.aload_n 0, 1) := by decide +kernel
theorem dX11_worked_110 : decode cX11_worked 110 = .ok (.getfield 38, 3) := by decide +kernel
theorem dX11_worked_113 : decode cX11_worked 113 = .ok (.iload 6, 2) := by decide +kernel
theorem dX11_worked_115 : decode cX11_worked 115 = .ok (.iconst 1, 1) := by decide +kernel
theorem dX11_worked_116 : decode cX11_worked 116 = .ok (.isub, 1) := by decide +kernel
theorem dX11_worked_117 : decode cX11_worked 117 = .ok (.aload_n 0, 1) := by decide +kernel
theorem dX11_worked_118 : decode cX11_worked 118 = .ok (.getfield 38, 3) := by decide +kernel
theorem dX11_worked_121 : decode cX11_worked 121 = .ok (.iload 6, 2) := by decide +kernel
theorem dX11_worked_123 : decode cX11_worked 123 = .ok (.iconst 1, 1) := by decide +kernel
theorem dX11_worked_124 : decode cX11_worked 124 = .ok (.isub, 1) := by decide +kernel
theorem dX11_worked_125 : decode cX11_worked 125 = .ok (.iaload, 1) := by decide +kernel
theorem dX11_worked_126 : decode cX11_worked 126 = .ok (.ifCond .ne 7, 3) := by decide +kernel
theorem dX11_worked_129 : decode cX11_worked 129 = .ok (.iconst 1, 1) := by decide +kernel
theorem dX11_worked_130 : decode cX11_worked 130 = .ok (.goto 4, 3) := by decide +kernel
theorem dX11_worked_133 : decode cX11_worked 133 = .ok (.iconst 0, 1) := by decide +kernel
theorem dX11_worked_134 : decode cX11_worked 134 = .ok (.invokestatic 354, 3) := by decide +kernel
theorem dX11_worked_137 : decode cX11_worked 137 = .ok (.iastore, 1) := by decide +kernel
theorem dX11_worked_138 : decode cX11_worked 138 = .ok (.goto 41, 3) := by decide +kernel
theorem dX11_worked_141 : decode cX11_worked 141 = .ok (.iinc 6 (-1), 3) := by decide +kernel
theorem dX11_worked_144 : decode cX11_worked 144 = .ok (.aload_n 0, 1) := by decide +kernel
theorem dX11_worked_145 : decode cX11_worked 145 = .ok (.getfield 38, 3) := by decide +kernel
theorem dX11_worked_148 : decode cX11_worked 148 = .ok (.iload 6, 2) := by decide +kernel
theorem dX11_worked_150 : decode cX11_worked 150 = .ok (.iconst 1, 1) := by decide +kernel
theorem dX11_worked_151 : decode cX11_worked 151 = .ok (.isub, 1) := by decide +kernel
theorem dX11_worked_152 : decode cX11_worked 152 = .ok (.aload_n 0, 1) := by decide +kernel
theorem dX11_worked_153 : decode cX11_worked 153 = .ok (.getfield 29, 3) := by decide +kernel
theorem dX11_worked_156 : decode cX11_worked 156 = .ok (.iload 7, 2) := by decide +kernel
theorem dX11_worked_158 : decode cX11_worked 158 = .ok (.iaload, 1) := by decide +kernel
theorem dX11_worked_159 : decode cX11_worked 159 = .ok (.aload_n 0, 1) := by decide +kernel
theorem dX11_worked_160 : decode cX11_worked 160 = .ok (.getfield 38, 3) := by decide +kernel
theorem dX11_worked_163 : decode cX11_worked 163 = .ok (.iload 6, 2) := by decide +kernel
theorem dX11_worked_165 : decode cX11_worked 165 = .ok (.iconst 1, 1) := by decide +kernel
theorem dX11_worked_166 : decode cX11_worked 166 = .ok (.isub, 1) := by decide +kernel
theorem dX11_worked_167 : decode cX11_worked 167 = .ok (.iaload, 1) := by decide +kernel
theorem dX11_worked_168 : decode cX11_worked 168 = .ok (.aload_n 0, 1) := by decide +kernel
theorem dX11_worked_169 : decode cX11_worked 169 = .ok (.getfield 38, 3) := by decide +kernel
theorem dX11_worked_172 : decode cX11_worked 172 = .ok (.iload 6, 2) := by decide +kernel
theorem dX11_worked_174 : decode cX11_worked 174 = .ok (.iaload, 1) := by decide +kernel
theorem dX11_worked_175 : decode cX11_worked 175 = .ok (.invokestatic 368, 3) := by decide +kernel
theorem dX11_worked_178 : decode cX11_worked 178 = .ok (.iastore, 1) := by decide +kernel
theorem dX11_worked_179 : decode cX11_worked 179 = .ok (.iinc 7 1, 3) := by decide +kernel
theorem dX11_worked_182 : decode cX11_worked 182 = .ok (.goto (-172), 3) := by decide +kernel
theorem dX11_worked_185 : decode cX11_worked 185 = .ok (.aload_n 0, 1) := by decide +kernel
theorem dX11_worked_186 : decode cX11_worked 186 = .ok (.getfield 38, 3) := by decide +kernel
theorem dX11_worked_189 : decode cX11_worked 189 = .ok (.iconst 0, 1) := by decide +kernel
theorem dX11_worked_190 : decode cX11_worked 190 = .ok (.iaload, 1) := by decide +kernel
theorem dX11_worked_191 : decode cX11_worked 191 = .ok (.ireturn, 1) := by decide +kernel
theorem dX11_find_0 : decode cX11_find 0 = .ok (.iconst (-1), 1) := by decide +kernel
theorem dX11_find_1 : decode cX11_find 1 = .ok (.istore_n 3, 1) := by decide +kernel
theorem dX11_find_2 : decode cX11_find 2 = .ok (.iconst 0, 1) := by decide +kernel
theorem dX11_find_3 : decode cX11_find 3 = .ok (.istore 4, 2) := by decide +kernel
theorem dX11_find_5 : decode cX11_find 5 = .ok (.iload 4, 2) := by decide +kernel
theorem dX11_find_7 : decode cX11_find 7 = .ok (.iload_n 2, 1) := by decide +kernel
theorem dX11_find_8 : decode cX11_find 8 = .ok (.if_icmp .ge 33, 3) := by decide +kernel
theorem dX11_find_11 : decode cX11_find 11 = .ok (.aload_n 0, 1) := by decide +kernel
theorem dX11_find_12 : decode cX11_find 12 = .ok (.getfield 41, 3) := by decide +kernel
theorem dX11_find_15 : decode cX11_find 15 = .ok (.iload_n 1, 1) := by decide +kernel
theorem dX11_find_16 : decode cX11_find 16 = .ok (.iload 4, 2) := by decide +kernel
theorem dX11_find_18 : decode cX11_find 18 = .ok (.iadd, 1) := by decide +kernel
theorem dX11_find_19 : decode cX11_find 19 = .ok (.laload, 1) := by decide +kernel
theorem dX11_find_20 : decode cX11_find 20 = .ok (.aload_n 0, 1) := by decide +kernel
theorem dX11_find_21 : decode cX11_find 21 = .ok (.getfield 204, 3) := by decide +kernel
theorem dX11_find_24 : decode cX11_find 24 = .ok (.lcmp, 1) := by decide +kernel
theorem dX11_find_25 : decode cX11_find 25 = .ok (.ifCond .ne 8, 3) := by decide +kernel
theorem dX11_find_28 : decode cX11_find 28 = .ok (.iload 4, 2) := by decide +kernel
theorem dX11_find_30 : decode cX11_find 30 = .ok (.goto 4, 3) := by decide +kernel
theorem dX11_find_33 : decode cX11_find 33 = .ok (.iload_n 3, 1) := by decide +kernel
theorem dX11_find_34 : decode cX11_find 34 = .ok (.istore_n 3, 1) := by decide +kernel
theorem dX11_find_35 : decode cX11_find 35 = .ok (.iinc 4 1, 3) := by decide +kernel
theorem dX11_find_38 : decode cX11_find 38 = .ok (.goto (-33), 3) := by decide +kernel
theorem dX11_find_41 : decode cX11_find 41 = .ok (.iload_n 3, 1) := by decide +kernel
theorem dX11_find_42 : decode cX11_find 42 = .ok (.ireturn, 1) := by decide +kernel
theorem dX11_newName_0 : decode cX11_newName 0 = .ok (.aload_n 0, 1) := by decide +kernel
theorem dX11_newName_1 : decode cX11_newName 1 = .ok (.invokevirtual 287, 3) := by decide +kernel
theorem dX11_newName_4 : decode cX11_newName 4 = .ok (.aload_n 0, 1) := by decide +kernel
theorem dX11_newName_5 : decode cX11_newName 5 = .ok (.invokevirtual 372, 3) := by decide +kernel
theorem dX11_newName_8 : decode cX11_newName 8 = .ok (.ifCond .ne 11, 3) := by decide +kernel
theorem dX11_newName_11 : decode cX11_newName 11 = .ok (.aload_n 0, 1) := by decide +kernel
theorem dX11_newName_12 : decode cX11_newName 12 = .ok (.iconst 2, 1) := by decide +kernel
theorem dX11_newName_13 : decode cX11_newName 13 = .ok (.invokevirtual 290, 3) := by decide +kernel
theorem dX11_newName_16 : decode cX11_newName 16 = .ok (.goto 17, 3) := by decide +kernel
theorem dX11_newName_19 : decode cX11_newName 19 = .ok (.aload_n 0, 1) := by decide +kernel
theorem dX11_newName_20 : decode cX11_newName 20 = .ok (.iload_n 1, 1) := by decide +kernel
theorem dX11_newName_21 : decode cX11_newName 21 = .ok (.iload_n 2, 1) := by decide +kernel
theorem dX11_newName_22 : decode cX11_newName 22 = .ok (.invokevirtual 375, 3) := by decide +kernel
theorem dX11_newName_25 : decode cX11_newName 25 = .ok (.ifCond .lt 8, 3) := by decide +kernel
theorem dX11_newName_28 : decode cX11_newName 28 = .ok (.aload_n 0, 1) := by decide +kernel
theorem dX11_newName_29 : decode cX11_newName 29 = .ok (.iconst 3, 1) := by decide +kernel
theorem dX11_newName_30 : decode cX11_newName 30 = .ok (.invokevirtual 290, 3) := by decide +kernel
theorem dX11_newName_33 : decode cX11_newName 33 = .ok (.aload_n 0, 1) := by decide +kernel
theorem dX11_newName_34 : decode cX11_newName 34 = .ok (.getfield 224, 3) := by decide +kernel
theorem dX11_newName_37 : decode cX11_newName 37 = .ok (.ifCond .le 4, 3) := by decide +kernel
theorem dX11_newName_40 : decode cX11_newName 40 = .ok (.return_, 1) := by decide +kernel
theorem dX11_newName_41 : decode cX11_newName 41 = .ok (.aload_n 0, 1) := by decide +kernel
theorem dX11_newName_42 : decode cX11_newName 42 = .ok (.getfield 41, 3) := by decide +kernel
theorem dX11_newName_45 : decode cX11_newName 45 = .ok (.iload_n 1, 1) := by decide +kernel
theorem dX11_newName_46 : decode cX11_newName 46 = .ok (.iload_n 2, 1) := by decide +kernel
theorem dX11_newName_47 : decode cX11_newName 47 = .ok (.iadd, 1) := by decide +kernel
theorem dX11_newName_48 : decode cX11_newName 48 = .ok (.aload_n 0, 1) := by decide +kernel
theorem dX11_newName_49 : decode cX11_newName 49 = .ok (.getfield 204, 3) := by decide +kernel
theorem dX11_newName_52 : decode cX11_newName 52 = .ok (.lastore, 1) := by decide +kernel
theorem dX11_newName_53 : decode cX11_newName 53 = .ok (.aload_n 0, 1) := by decide +kernel
theorem dX11_newName_54 : decode cX11_newName 54 = .ok (.invokevirtual 287, 3) := by decide +kernel
theorem dX11_newName_57 : decode cX11_newName 57 = .ok (.return_, 1) := by decide +kernel
theorem dX11_readTub_0 : decode cX11_readTub 0 = .ok (.aload_n 0, 1) := by decide +kernel
theorem dX11_readTub_1 : decode cX11_readTub 1 = .ok (.aload_n 0, 1) := by decide +kernel
theorem dX11_readTub_2 : decode cX11_readTub 2 = .ok (.ldc2_w 227, 3) := by decide +kernel
theorem dX11_readTub_5 : decode cX11_readTub 5 = .ok (.iconst 1, 1) := by decide +kernel
theorem dX11_readTub_6 : decode cX11_readTub 6 = .ok (.bipush 6, 2) := by decide +kernel
theorem dX11_readTub_8 : decode cX11_readTub 8 = .ok (.invokevirtual 378, 3) := by decide +kernel
theorem dX11_readTub_11 : decode cX11_readTub 11 = .ok (.putfield 382, 3) := by decide +kernel
theorem dX11_readTub_14 : decode cX11_readTub 14 = .ok (.aload_n 0, 1) := by decide +kernel
theorem dX11_readTub_15 : decode cX11_readTub 15 = .ok (.aload_n 0, 1) := by decide +kernel
theorem dX11_readTub_16 : decode cX11_readTub 16 = .ok (.ldc2_w 229, 3) := by decide +kernel
theorem dX11_readTub_19 : decode cX11_readTub 19 = .ok (.iconst 1, 1) := by decide +kernel
theorem dX11_readTub_20 : decode cX11_readTub 20 = .ok (.bipush 6, 2) := by decide +kernel
theorem dX11_readTub_22 : decode cX11_readTub 22 = .ok (.invokevirtual 378, 3) := by decide +kernel
theorem dX11_readTub_25 : decode cX11_readTub 25 = .ok (.putfield 385, 3) := by decide +kernel
theorem dX11_readTub_28 : decode cX11_readTub 28 = .ok (.return_, 1) := by decide +kernel
theorem dX11_readOdds_0 : decode cX11_readOdds 0 = .ok (.aload_n 0, 1) := by decide +kernel
theorem dX11_readOdds_1 : decode cX11_readOdds 1 = .ok (.invokevirtual 287, 3) := by decide +kernel
theorem dX11_readOdds_4 : decode cX11_readOdds 4 = .ok (.aload_n 0, 1) := by decide +kernel
theorem dX11_readOdds_5 : decode cX11_readOdds 5 = .ok (.ldc2_w 233, 3) := by decide +kernel
theorem dX11_readOdds_8 : decode cX11_readOdds 8 = .ok (.invokevirtual 283, 3) := by decide +kernel
theorem dX11_readOdds_11 : decode cX11_readOdds 11 = .ok (.ifCond .eq 7, 3) := by decide +kernel
theorem dX11_readOdds_14 : decode cX11_readOdds 14 = .ok (.iconst 0, 1) := by decide +kernel
theorem dX11_readOdds_15 : decode cX11_readOdds 15 = .ok (.goto 60, 3) := by decide +kernel
theorem dX11_readOdds_18 : decode cX11_readOdds 18 = .ok (.aload_n 0, 1) := by decide +kernel
theorem dX11_readOdds_19 : decode cX11_readOdds 19 = .ok (.ldc2_w 235, 3) := by decide +kernel
theorem dX11_readOdds_22 : decode cX11_readOdds 22 = .ok (.invokevirtual 283, 3) := by decide +kernel
theorem dX11_readOdds_25 : decode cX11_readOdds 25 = .ok (.ifCond .eq 7, 3) := by decide +kernel
theorem dX11_readOdds_28 : decode cX11_readOdds 28 = .ok (.iconst 1, 1) := by decide +kernel
theorem dX11_readOdds_29 : decode cX11_readOdds 29 = .ok (.goto 46, 3) := by decide +kernel
theorem dX11_readOdds_32 : decode cX11_readOdds 32 = .ok (.aload_n 0, 1) := by decide +kernel
theorem dX11_readOdds_33 : decode cX11_readOdds 33 = .ok (.ldc2_w 237, 3) := by decide +kernel
theorem dX11_readOdds_36 : decode cX11_readOdds 36 = .ok (.invokevirtual 283, 3) := by decide +kernel
theorem dX11_readOdds_39 : decode cX11_readOdds 39 = .ok (.ifCond .eq 7, 3) := by decide +kernel
theorem dX11_readOdds_42 : decode cX11_readOdds 42 = .ok (.iconst 2, 1) := by decide +kernel
theorem dX11_readOdds_43 : decode cX11_readOdds 43 = .ok (.goto 32, 3) := by decide +kernel
theorem dX11_readOdds_46 : decode cX11_readOdds 46 = .ok (.aload_n 0, 1) := by decide +kernel
theorem dX11_readOdds_47 : decode cX11_readOdds 47 = .ok (.ldc2_w 239, 3) := by decide +kernel
theorem dX11_readOdds_50 : decode cX11_readOdds 50 = .ok (.invokevirtual 283, 3) := by decide +kernel
theorem dX11_readOdds_53 : decode cX11_readOdds 53 = .ok (.ifCond .eq 7, 3) := by decide +kernel
theorem dX11_readOdds_56 : decode cX11_readOdds 56 = .ok (.iconst 3, 1) := by decide +kernel
theorem dX11_readOdds_57 : decode cX11_readOdds 57 = .ok (.goto 18, 3) := by decide +kernel
theorem dX11_readOdds_60 : decode cX11_readOdds 60 = .ok (.aload_n 0, 1) := by decide +kernel
theorem dX11_readOdds_61 : decode cX11_readOdds 61 = .ok (.ldc2_w 269, 3) := by decide +kernel
theorem dX11_readOdds_64 : decode cX11_readOdds 64 = .ok (.invokevirtual 283, 3) := by decide +kernel
theorem dX11_readOdds_67 : decode cX11_readOdds 67 = .ok (.ifCond .eq 7, 3) := by decide +kernel
theorem dX11_readOdds_70 : decode cX11_readOdds 70 = .ok (.iconst 4, 1) := by decide +kernel
theorem dX11_readOdds_71 : decode cX11_readOdds 71 = .ok (.goto 4, 3) := by decide +kernel
theorem dX11_readOdds_74 : decode cX11_readOdds 74 = .ok (.iconst (-1), 1) := by decide +kernel
theorem dX11_readOdds_75 : decode cX11_readOdds 75 = .ok (.istore_n 1, 1) := by decide +kernel
theorem dX11_readOdds_76 : decode cX11_readOdds 76 = .ok (.iload_n 1, 1) := by decide +kernel
theorem dX11_readOdds_77 : decode cX11_readOdds 77 = .ok (.ifCond .lt 15, 3) := by decide +kernel
theorem dX11_readOdds_80 : decode cX11_readOdds 80 = .ok (.aload_n 0, 1) := by decide +kernel
theorem dX11_readOdds_81 : decode cX11_readOdds 81 = .ok (.getfield 388, 3) := by decide +kernel
theorem dX11_readOdds_84 : decode cX11_readOdds 84 = .ok (.iload_n 1, 1) := by decide +kernel
theorem dX11_readOdds_85 : decode cX11_readOdds 85 = .ok (.ishr, 1) := by decide +kernel
theorem dX11_readOdds_86 : decode cX11_readOdds 86 = .ok (.iconst 1, 1) := by decide +kernel
theorem dX11_readOdds_87 : decode cX11_readOdds 87 = .ok (.iand, 1) := by decide +kernel
theorem dX11_readOdds_88 : decode cX11_readOdds 88 = .ok (.iconst 1, 1) := by decide +kernel
theorem dX11_readOdds_89 : decode cX11_readOdds 89 = .ok (.if_icmp .ne 8, 3) := by decide +kernel
theorem dX11_readOdds_92 : decode cX11_readOdds 92 = .ok (.aload_n 0, 1) := by decide +kernel
theorem dX11_readOdds_93 : decode cX11_readOdds 93 = .ok (.iconst 2, 1) := by decide +kernel
theorem dX11_readOdds_94 : decode cX11_readOdds 94 = .ok (.invokevirtual 290, 3) := by decide +kernel
theorem dX11_readOdds_97 : decode cX11_readOdds 97 = .ok (.aload_n 0, 1) := by decide +kernel
theorem dX11_readOdds_98 : decode cX11_readOdds 98 = .ok (.getfield 224, 3) := by decide +kernel
theorem dX11_readOdds_101 : decode cX11_readOdds 101 = .ok (.ifCond .le 4, 3) := by decide +kernel
theorem dX11_readOdds_104 : decode cX11_readOdds 104 = .ok (.return_, 1) := by decide +kernel
theorem dX11_readOdds_105 : decode cX11_readOdds 105 = .ok (.aload_n 0, 1) := by decide +kernel
theorem dX11_readOdds_106 : decode cX11_readOdds 106 = .ok (.dup, 1) := by decide +kernel
theorem dX11_readOdds_107 : decode cX11_readOdds 107 = .ok (.getfield 388, 3) := by decide +kernel
theorem dX11_readOdds_110 : decode cX11_readOdds 110 = .ok (.iconst 1, 1) := by decide +kernel
theorem dX11_readOdds_111 : decode cX11_readOdds 111 = .ok (.iload_n 1, 1) := by decide +kernel
theorem dX11_readOdds_112 : decode cX11_readOdds 112 = .ok (.ishl, 1) := by decide +kernel
theorem dX11_readOdds_113 : decode cX11_readOdds 113 = .ok (.ior, 1) := by decide +kernel
theorem dX11_readOdds_114 : decode cX11_readOdds 114 = .ok (.putfield 388, 3) := by decide +kernel
theorem dX11_readOdds_117 : decode cX11_readOdds 117 = .ok (.aload_n 0, 1) := by decide +kernel
theorem dX11_readOdds_118 : decode cX11_readOdds 118 = .ok (.invokevirtual 287, 3) := by decide +kernel
theorem dX11_readOdds_121 : decode cX11_readOdds 121 = .ok (.aload_n 0, 1) := by decide +kernel
theorem dX11_readOdds_122 : decode cX11_readOdds 122 = .ok (.iload_n 1, 1) := by decide +kernel
theorem dX11_readOdds_123 : decode cX11_readOdds 123 = .ok (.invokevirtual 391, 3) := by decide +kernel
theorem dX11_readOdds_126 : decode cX11_readOdds 126 = .ok (.return_, 1) := by decide +kernel
theorem dX11_readRule_0 : decode cX11_readRule 0 = .ok (.aload_n 0, 1) := by decide +kernel
theorem dX11_readRule_1 : decode cX11_readRule 1 = .ok (.iconst 0, 1) := by decide +kernel
theorem dX11_readRule_2 : decode cX11_readRule 2 = .ok (.aload_n 0, 1) := by decide +kernel
theorem dX11_readRule_3 : decode cX11_readRule 3 = .ok (.getfield 394, 3) := by decide +kernel
theorem dX11_readRule_6 : decode cX11_readRule 6 = .ok (.invokevirtual 397, 3) := by decide +kernel
theorem dX11_readRule_9 : decode cX11_readRule 9 = .ok (.aload_n 0, 1) := by decide +kernel
theorem dX11_readRule_10 : decode cX11_readRule 10 = .ok (.getfield 224, 3) := by decide +kernel
theorem dX11_readRule_13 : decode cX11_readRule 13 = .ok (.ifCond .le 4, 3) := by decide +kernel
theorem dX11_readRule_16 : decode cX11_readRule 16 = .ok (.return_, 1) := by decide +kernel
theorem dX11_readRule_17 : decode cX11_readRule 17 = .ok (.aload_n 0, 1) := by decide +kernel
theorem dX11_readRule_18 : decode cX11_readRule 18 = .ok (.iconst 5, 1) := by decide +kernel
theorem dX11_readRule_19 : decode cX11_readRule 19 = .ok (.aload_n 0, 1) := by decide +kernel
theorem dX11_readRule_20 : decode cX11_readRule 20 = .ok (.getfield 394, 3) := by decide +kernel
theorem dX11_readRule_23 : decode cX11_readRule 23 = .ok (.iadd, 1) := by decide +kernel
theorem dX11_readRule_24 : decode cX11_readRule 24 = .ok (.invokevirtual 391, 3) := by decide +kernel
theorem dX11_readRule_27 : decode cX11_readRule 27 = .ok (.aload_n 0, 1) := by decide +kernel
theorem dX11_readRule_28 : decode cX11_readRule 28 = .ok (.getfield 224, 3) := by decide +kernel
theorem dX11_readRule_31 : decode cX11_readRule 31 = .ok (.ifCond .ne 13, 3) := by decide +kernel
theorem dX11_readRule_34 : decode cX11_readRule 34 = .ok (.aload_n 0, 1) := by decide +kernel
theorem dX11_readRule_35 : decode cX11_readRule 35 = .ok (.dup, 1) := by decide +kernel
theorem dX11_readRule_36 : decode cX11_readRule 36 = .ok (.getfield 394, 3) := by decide +kernel
theorem dX11_readRule_39 : decode cX11_readRule 39 = .ok (.iconst 1, 1) := by decide +kernel
theorem dX11_readRule_40 : decode cX11_readRule 40 = .ok (.iadd, 1) := by decide +kernel
theorem dX11_readRule_41 : decode cX11_readRule 41 = .ok (.putfield 394, 3) := by decide +kernel
theorem dX11_readRule_44 : decode cX11_readRule 44 = .ok (.return_, 1) := by decide +kernel
theorem dX11_readApple_0 : decode cX11_readApple 0 = .ok (.aload_n 0, 1) := by decide +kernel
theorem dX11_readApple_1 : decode cX11_readApple 1 = .ok (.bipush 6, 2) := by decide +kernel
theorem dX11_readApple_3 : decode cX11_readApple 3 = .ok (.aload_n 0, 1) := by decide +kernel
theorem dX11_readApple_4 : decode cX11_readApple 4 = .ok (.getfield 400, 3) := by decide +kernel
theorem dX11_readApple_7 : decode cX11_readApple 7 = .ok (.invokevirtual 397, 3) := by decide +kernel
theorem dX11_readApple_10 : decode cX11_readApple 10 = .ok (.aload_n 0, 1) := by decide +kernel
theorem dX11_readApple_11 : decode cX11_readApple 11 = .ok (.ldc2_w 245, 3) := by decide +kernel
theorem dX11_readApple_14 : decode cX11_readApple 14 = .ok (.invokevirtual 293, 3) := by decide +kernel
theorem dX11_readApple_17 : decode cX11_readApple 17 = .ok (.aload_n 0, 1) := by decide +kernel
theorem dX11_readApple_18 : decode cX11_readApple 18 = .ok (.getfield 51, 3) := by decide +kernel
theorem dX11_readApple_21 : decode cX11_readApple 21 = .ok (.aload_n 0, 1) := by decide +kernel
theorem dX11_readApple_22 : decode cX11_readApple 22 = .ok (.getfield 400, 3) := by decide +kernel
theorem dX11_readApple_25 : decode cX11_readApple 25 = .ok (.aload_n 0, 1) := by decide +kernel
theorem dX11_readApple_26 : decode cX11_readApple 26 = .ok (.iconst 0, 1) := by decide +kernel
theorem dX11_readApple_27 : decode cX11_readApple 27 = .ok (.aload_n 0, 1) := by decide +kernel
theorem dX11_readApple_28 : decode cX11_readApple 28 = .ok (.getfield 382, 3) := by decide +kernel
theorem dX11_readApple_31 : decode cX11_readApple 31 = .ok (.iconst 1, 1) := by decide +kernel
theorem dX11_readApple_32 : decode cX11_readApple 32 = .ok (.isub, 1) := by decide +kernel
theorem dX11_readApple_33 : decode cX11_readApple 33 = .ok (.invokevirtual 297, 3) := by decide +kernel
theorem dX11_readApple_36 : decode cX11_readApple 36 = .ok (.iastore, 1) := by decide +kernel
theorem dX11_readApple_37 : decode cX11_readApple 37 = .ok (.aload_n 0, 1) := by decide +kernel
theorem dX11_readApple_38 : decode cX11_readApple 38 = .ok (.getfield 201, 3) := by decide +kernel
theorem dX11_readApple_41 : decode cX11_readApple 41 = .ok (.istore_n 1, 1) := by decide +kernel
theorem dX11_readApple_42 : decode cX11_readApple 42 = .ok (.aload_n 0, 1) := by decide +kernel
theorem dX11_readApple_43 : decode cX11_readApple 43 = .ok (.getfield 54, 3) := by decide +kernel
theorem dX11_readApple_46 : decode cX11_readApple 46 = .ok (.aload_n 0, 1) := by decide +kernel
theorem dX11_readApple_47 : decode cX11_readApple 47 = .ok (.getfield 400, 3) := by decide +kernel
theorem dX11_readApple_50 : decode cX11_readApple 50 = .ok (.aload_n 0, 1) := by decide +kernel
theorem dX11_readApple_51 : decode cX11_readApple 51 = .ok (.iconst 0, 1) := by decide +kernel
theorem dX11_readApple_52 : decode cX11_readApple 52 = .ok (.aload_n 0, 1) := by decide +kernel
theorem dX11_readApple_53 : decode cX11_readApple 53 = .ok (.getfield 385, 3) := by decide +kernel
theorem dX11_readApple_56 : decode cX11_readApple 56 = .ok (.iconst 1, 1) := by decide +kernel
theorem dX11_readApple_57 : decode cX11_readApple 57 = .ok (.isub, 1) := by decide +kernel
theorem dX11_readApple_58 : decode cX11_readApple 58 = .ok (.invokevirtual 297, 3) := by decide +kernel
theorem dX11_readApple_61 : decode cX11_readApple 61 = .ok (.iastore, 1) := by decide +kernel
theorem dX11_readApple_62 : decode cX11_readApple 62 = .ok (.iconst 0, 1) := by decide +kernel
theorem dX11_readApple_63 : decode cX11_readApple 63 = .ok (.istore_n 2, 1) := by decide +kernel
theorem dX11_readApple_64 : decode cX11_readApple 64 = .ok (.iload_n 2, 1) := by decide +kernel
theorem dX11_readApple_65 : decode cX11_readApple 65 = .ok (.aload_n 0, 1) := by decide +kernel
theorem dX11_readApple_66 : decode cX11_readApple 66 = .ok (.getfield 400, 3) := by decide +kernel
theorem dX11_readApple_69 : decode cX11_readApple 69 = .ok (.if_icmp .ge 58, 3) := by decide +kernel
theorem dX11_readApple_72 : decode cX11_readApple 72 = .ok (.aload_n 0, 1) := by decide +kernel
theorem dX11_readApple_73 : decode cX11_readApple 73 = .ok (.getfield 224, 3) := by decide +kernel
theorem dX11_readApple_76 : decode cX11_readApple 76 = .ok (.ifCond .ne 45, 3) := by decide +kernel
theorem dX11_readApple_79 : decode cX11_readApple 79 = .ok (.aload_n 0, 1) := by decide +kernel
theorem dX11_readApple_80 : decode cX11_readApple 80 = .ok (.getfield 51, 3) := by decide +kernel
theorem dX11_readApple_83 : decode cX11_readApple 83 = .ok (.iload_n 2, 1) := by decide +kernel
theorem dX11_readApple_84 : decode cX11_readApple 84 = .ok (.iaload, 1) := by decide +kernel
theorem dX11_readApple_85 : decode cX11_readApple 85 = .ok (.aload_n 0, 1) := by decide +kernel
theorem dX11_readApple_86 : decode cX11_readApple 86 = .ok (.getfield 51, 3) := by decide +kernel
theorem dX11_readApple_89 : decode cX11_readApple 89 = .ok (.aload_n 0, 1) := by decide +kernel
theorem dX11_readApple_90 : decode cX11_readApple 90 = .ok (.getfield 400, 3) := by decide +kernel
theorem dX11_readApple_93 : decode cX11_readApple 93 = .ok (.iaload, 1) := by decide +kernel
theorem dX11_readApple_94 : decode cX11_readApple 94 = .ok (.if_icmp .ne 27, 3) := by decide +kernel
theorem dX11_readApple_97 : decode cX11_readApple 97 = .ok (.aload_n 0, 1) := by decide +kernel
theorem dX11_readApple_98 : decode cX11_readApple 98 = .ok (.getfield 54, 3) := by decide +kernel
theorem dX11_readApple_101 : decode cX11_readApple 101 = .ok (.iload_n 2, 1) := by decide +kernel
theorem dX11_readApple_102 : decode cX11_readApple 102 = .ok (.iaload, 1) := by decide +kernel
theorem dX11_readApple_103 : decode cX11_readApple 103 = .ok (.aload_n 0, 1) := by decide +kernel
theorem dX11_readApple_104 : decode cX11_readApple 104 = .ok (.getfield 54, 3) := by decide +kernel
theorem dX11_readApple_107 : decode cX11_readApple 107 = .ok (.aload_n 0, 1) := by decide +kernel
theorem dX11_readApple_108 : decode cX11_readApple 108 = .ok (.getfield 400, 3) := by decide +kernel
theorem dX11_readApple_111 : decode cX11_readApple 111 = .ok (.iaload, 1) := by decide +kernel
theorem dX11_readApple_112 : decode cX11_readApple 112 = .ok (.if_icmp .ne 9, 3) := by decide +kernel
theorem dX11_readApple_115 : decode cX11_readApple 115 = .ok (.aload_n 0, 1) := by decide +kernel
theorem dX11_readApple_116 : decode cX11_readApple 116 = .ok (.iconst 3, 1) := by decide +kernel
theorem dX11_readApple_117 : decode cX11_readApple 117 = .ok (.iload_n 1, 1) := by decide +kernel
theorem dX11_readApple_118 : decode cX11_readApple 118 = .ok (.invokevirtual 403, 3) := by decide +kernel
theorem dX11_readApple_121 : decode cX11_readApple 121 = .ok (.iinc 2 1, 3) := by decide +kernel
theorem dX11_readApple_124 : decode cX11_readApple 124 = .ok (.goto (-60), 3) := by decide +kernel
theorem dX11_readApple_127 : decode cX11_readApple 127 = .ok (.aload_n 0, 1) := by decide +kernel
theorem dX11_readApple_128 : decode cX11_readApple 128 = .ok (.getfield 45, 3) := by decide +kernel
theorem dX11_readApple_131 : decode cX11_readApple 131 = .ok (.aload_n 0, 1) := by decide +kernel
theorem dX11_readApple_132 : decode cX11_readApple 132 = .ok (.getfield 400, 3) := by decide +kernel
theorem dX11_readApple_135 : decode cX11_readApple 135 = .ok (.aload_n 0, 1) := by decide +kernel
theorem dX11_readApple_136 : decode cX11_readApple 136 = .ok (.ldc2_w 247, 3) := by decide +kernel
theorem dX11_readApple_139 : decode cX11_readApple 139 = .ok (.iconst 1, 1) := by decide +kernel
theorem dX11_readApple_140 : decode cX11_readApple 140 = .ok (.bipush 99, 2) := by decide +kernel
theorem dX11_readApple_142 : decode cX11_readApple 142 = .ok (.invokevirtual 378, 3) := by decide +kernel
theorem dX11_readApple_145 : decode cX11_readApple 145 = .ok (.iastore, 1) := by decide +kernel
theorem dX11_readApple_146 : decode cX11_readApple 146 = .ok (.aload_n 0, 1) := by decide +kernel
theorem dX11_readApple_147 : decode cX11_readApple 147 = .ok (.getfield 48, 3) := by decide +kernel
theorem dX11_readApple_150 : decode cX11_readApple 150 = .ok (.aload_n 0, 1) := by decide +kernel
theorem dX11_readApple_151 : decode cX11_readApple 151 = .ok (.getfield 400, 3) := by decide +kernel
theorem dX11_readApple_154 : decode cX11_readApple 154 = .ok (.aload_n 0, 1) := by decide +kernel
theorem dX11_readApple_155 : decode cX11_readApple 155 = .ok (.ldc2_w 249, 3) := by decide +kernel
theorem dX11_readApple_158 : decode cX11_readApple 158 = .ok (.iconst 0, 1) := by decide +kernel
theorem dX11_readApple_159 : decode cX11_readApple 159 = .ok (.bipush 9, 2) := by decide +kernel
theorem dX11_readApple_161 : decode cX11_readApple 161 = .ok (.invokevirtual 378, 3) := by decide +kernel
theorem dX11_readApple_164 : decode cX11_readApple 164 = .ok (.iastore, 1) := by decide +kernel
theorem dX11_readApple_165 : decode cX11_readApple 165 = .ok (.aload_n 0, 1) := by decide +kernel
theorem dX11_readApple_166 : decode cX11_readApple 166 = .ok (.getfield 78, 3) := by decide +kernel
theorem dX11_readApple_169 : decode cX11_readApple 169 = .ok (.aload_n 0, 1) := by decide +kernel
theorem dX11_readApple_170 : decode cX11_readApple 170 = .ok (.getfield 400, 3) := by decide +kernel
theorem dX11_readApple_173 : decode cX11_readApple 173 = .ok (.aload_n 0, 1) := by decide +kernel
theorem dX11_readApple_174 : decode cX11_readApple 174 = .ok (.ldc2_w 235, 3) := by decide +kernel
theorem dX11_readApple_177 : decode cX11_readApple 177 = .ok (.invokevirtual 406, 3) := by decide +kernel
theorem dX11_readApple_180 : decode cX11_readApple 180 = .ok (.bastore, 1) := by decide +kernel
theorem dX11_readApple_181 : decode cX11_readApple 181 = .ok (.aload_n 0, 1) := by decide +kernel
theorem dX11_readApple_182 : decode cX11_readApple 182 = .ok (.getfield 57, 3) := by decide +kernel
theorem dX11_readApple_185 : decode cX11_readApple 185 = .ok (.aload_n 0, 1) := by decide +kernel
theorem dX11_readApple_186 : decode cX11_readApple 186 = .ok (.getfield 400, 3) := by decide +kernel
theorem dX11_readApple_189 : decode cX11_readApple 189 = .ok (.aload_n 0, 1) := by decide +kernel
theorem dX11_readApple_190 : decode cX11_readApple 190 = .ok (.ldc2_w 251, 3) := by decide +kernel
theorem dX11_readApple_193 : decode cX11_readApple 193 = .ok (.invokevirtual 406, 3) := by decide +kernel
theorem dX11_readApple_196 : decode cX11_readApple 196 = .ok (.ifCond .eq 13, 3) := by decide +kernel
theorem dX11_readApple_199 : decode cX11_readApple 199 = .ok (.aload_n 0, 1) := by decide +kernel
theorem dX11_readApple_200 : decode cX11_readApple 200 = .ok (.iconst 0, 1) := by decide +kernel
theorem dX11_readApple_201 : decode cX11_readApple 201 = .ok (.bipush 99, 2) := by decide +kernel
theorem dX11_readApple_203 : decode cX11_readApple 203 = .ok (.invokevirtual 297, 3) := by decide +kernel
theorem dX11_readApple_206 : decode cX11_readApple 206 = .ok (.goto 4, 3) := by decide +kernel
theorem dX11_readApple_209 : decode cX11_readApple 209 = .ok (.iconst 1, 1) := by decide +kernel
theorem dX11_readApple_210 : decode cX11_readApple 210 = .ok (.iastore, 1) := by decide +kernel
theorem dX11_readApple_211 : decode cX11_readApple 211 = .ok (.aload_n 0, 1) := by decide +kernel
theorem dX11_readApple_212 : decode cX11_readApple 212 = .ok (.getfield 224, 3) := by decide +kernel
theorem dX11_readApple_215 : decode cX11_readApple 215 = .ok (.ifCond .ne 13, 3) := by decide +kernel
theorem dX11_readApple_218 : decode cX11_readApple 218 = .ok (.aload_n 0, 1) := by decide +kernel
theorem dX11_readApple_219 : decode cX11_readApple 219 = .ok (.dup, 1) := by decide +kernel
theorem dX11_readApple_220 : decode cX11_readApple 220 = .ok (.getfield 400, 3) := by decide +kernel
theorem dX11_readApple_223 : decode cX11_readApple 223 = .ok (.iconst 1, 1) := by decide +kernel
theorem dX11_readApple_224 : decode cX11_readApple 224 = .ok (.iadd, 1) := by decide +kernel
theorem dX11_readApple_225 : decode cX11_readApple 225 = .ok (.putfield 400, 3) := by decide +kernel
theorem dX11_readApple_228 : decode cX11_readApple 228 = .ok (.return_, 1) := by decide +kernel
theorem dX11_readBobber_0 : decode cX11_readBobber 0 = .ok (.aload_n 0, 1) := by decide +kernel
theorem dX11_readBobber_1 : decode cX11_readBobber 1 = .ok (.bipush 16, 2) := by decide +kernel
theorem dX11_readBobber_3 : decode cX11_readBobber 3 = .ok (.aload_n 0, 1) := by decide +kernel
theorem dX11_readBobber_4 : decode cX11_readBobber 4 = .ok (.getfield 409, 3) := by decide +kernel
theorem dX11_readBobber_7 : decode cX11_readBobber 7 = .ok (.invokevirtual 397, 3) := by decide +kernel
theorem dX11_readBobber_10 : decode cX11_readBobber 10 = .ok (.aload_n 0, 1) := by decide +kernel
theorem dX11_readBobber_11 : decode cX11_readBobber 11 = .ok (.ldc2_w 245, 3) := by decide +kernel
theorem dX11_readBobber_14 : decode cX11_readBobber 14 = .ok (.invokevirtual 293, 3) := by decide +kernel
theorem dX11_readBobber_17 : decode cX11_readBobber 17 = .ok (.aload_n 0, 1) := by decide +kernel
theorem dX11_readBobber_18 : decode cX11_readBobber 18 = .ok (.getfield 60, 3) := by decide +kernel
theorem dX11_readBobber_21 : decode cX11_readBobber 21 = .ok (.aload_n 0, 1) := by decide +kernel
theorem dX11_readBobber_22 : decode cX11_readBobber 22 = .ok (.getfield 409, 3) := by decide +kernel
theorem dX11_readBobber_25 : decode cX11_readBobber 25 = .ok (.aload_n 0, 1) := by decide +kernel
theorem dX11_readBobber_26 : decode cX11_readBobber 26 = .ok (.iconst 0, 1) := by decide +kernel
theorem dX11_readBobber_27 : decode cX11_readBobber 27 = .ok (.aload_n 0, 1) := by decide +kernel
theorem dX11_readBobber_28 : decode cX11_readBobber 28 = .ok (.getfield 382, 3) := by decide +kernel
theorem dX11_readBobber_31 : decode cX11_readBobber 31 = .ok (.iconst 1, 1) := by decide +kernel
theorem dX11_readBobber_32 : decode cX11_readBobber 32 = .ok (.isub, 1) := by decide +kernel
theorem dX11_readBobber_33 : decode cX11_readBobber 33 = .ok (.invokevirtual 297, 3) := by decide +kernel
theorem dX11_readBobber_36 : decode cX11_readBobber 36 = .ok (.iastore, 1) := by decide +kernel
theorem dX11_readBobber_37 : decode cX11_readBobber 37 = .ok (.aload_n 0, 1) := by decide +kernel
theorem dX11_readBobber_38 : decode cX11_readBobber 38 = .ok (.getfield 63, 3) := by decide +kernel
theorem dX11_readBobber_41 : decode cX11_readBobber 41 = .ok (.aload_n 0, 1) := by decide +kernel
theorem dX11_readBobber_42 : decode cX11_readBobber 42 = .ok (.getfield 409, 3) := by decide +kernel
theorem dX11_readBobber_45 : decode cX11_readBobber 45 = .ok (.aload_n 0, 1) := by decide +kernel
theorem dX11_readBobber_46 : decode cX11_readBobber 46 = .ok (.iconst 0, 1) := by decide +kernel
theorem dX11_readBobber_47 : decode cX11_readBobber 47 = .ok (.aload_n 0, 1) := by decide +kernel
theorem dX11_readBobber_48 : decode cX11_readBobber 48 = .ok (.getfield 385, 3) := by decide +kernel
theorem dX11_readBobber_51 : decode cX11_readBobber 51 = .ok (.iconst 1, 1) := by decide +kernel
theorem dX11_readBobber_52 : decode cX11_readBobber 52 = .ok (.isub, 1) := by decide +kernel
theorem dX11_readBobber_53 : decode cX11_readBobber 53 = .ok (.invokevirtual 297, 3) := by decide +kernel
theorem dX11_readBobber_56 : decode cX11_readBobber 56 = .ok (.iastore, 1) := by decide +kernel
theorem dX11_readBobber_57 : decode cX11_readBobber 57 = .ok (.aload_n 0, 1) := by decide +kernel
theorem dX11_readBobber_58 : decode cX11_readBobber 58 = .ok (.getfield 66, 3) := by decide +kernel
theorem dX11_readBobber_61 : decode cX11_readBobber 61 = .ok (.aload_n 0, 1) := by decide +kernel
theorem dX11_readBobber_62 : decode cX11_readBobber 62 = .ok (.getfield 409, 3) := by decide +kernel
theorem dX11_readBobber_65 : decode cX11_readBobber 65 = .ok (.aload_n 0, 1) := by decide +kernel
theorem dX11_readBobber_66 : decode cX11_readBobber 66 = .ok (.ldc2_w 255, 3) := by decide +kernel
theorem dX11_readBobber_69 : decode cX11_readBobber 69 = .ok (.iconst 0, 1) := by decide +kernel
theorem dX11_readBobber_70 : decode cX11_readBobber 70 = .ok (.iconst 5, 1) := by decide +kernel
theorem dX11_readBobber_71 : decode cX11_readBobber 71 = .ok (.invokevirtual 378, 3) := by decide +kernel
theorem dX11_readBobber_74 : decode cX11_readBobber 74 = .ok (.iastore, 1) := by decide +kernel
theorem dX11_readBobber_75 : decode cX11_readBobber 75 = .ok (.aload_n 0, 1) := by decide +kernel
theorem dX11_readBobber_76 : decode cX11_readBobber 76 = .ok (.getfield 69, 3) := by decide +kernel
theorem dX11_readBobber_79 : decode cX11_readBobber 79 = .ok (.aload_n 0, 1) := by decide +kernel
theorem dX11_readBobber_80 : decode cX11_readBobber 80 = .ok (.getfield 409, 3) := by decide +kernel
theorem dX11_readBobber_83 : decode cX11_readBobber 83 = .ok (.aload_n 0, 1) := by decide +kernel
theorem dX11_readBobber_84 : decode cX11_readBobber 84 = .ok (.ldc2_w 257, 3) := by decide +kernel
theorem dX11_readBobber_87 : decode cX11_readBobber 87 = .ok (.iconst 0, 1) := by decide +kernel
theorem dX11_readBobber_88 : decode cX11_readBobber 88 = .ok (.bipush 20, 2) := by decide +kernel
theorem dX11_readBobber_90 : decode cX11_readBobber 90 = .ok (.invokevirtual 378, 3) := by decide +kernel
theorem dX11_readBobber_93 : decode cX11_readBobber 93 = .ok (.iastore, 1) := by decide +kernel
theorem dX11_readBobber_94 : decode cX11_readBobber 94 = .ok (.aload_n 0, 1) := by decide +kernel
theorem dX11_readBobber_95 : decode cX11_readBobber 95 = .ok (.getfield 72, 3) := by decide +kernel
theorem dX11_readBobber_98 : decode cX11_readBobber 98 = .ok (.aload_n 0, 1) := by decide +kernel
theorem dX11_readBobber_99 : decode cX11_readBobber 99 = .ok (.getfield 409, 3) := by decide +kernel
theorem dX11_readBobber_102 : decode cX11_readBobber 102 = .ok (.aload_n 0, 1) := by decide +kernel
theorem dX11_readBobber_103 : decode cX11_readBobber 103 = .ok (.ldc2_w 259, 3) := by decide +kernel
theorem dX11_readBobber_106 : decode cX11_readBobber 106 = .ok (.iconst 0, 1) := by decide +kernel
theorem dX11_readBobber_107 : decode cX11_readBobber 107 = .ok (.bipush 9, 2) := by decide +kernel
theorem dX11_readBobber_109 : decode cX11_readBobber 109 = .ok (.invokevirtual 378, 3) := by decide +kernel
theorem dX11_readBobber_112 : decode cX11_readBobber 112 = .ok (.iastore, 1) := by decide +kernel
theorem dX11_readBobber_113 : decode cX11_readBobber 113 = .ok (.aload_n 0, 1) := by decide +kernel
theorem dX11_readBobber_114 : decode cX11_readBobber 114 = .ok (.getfield 75, 3) := by decide +kernel
theorem dX11_readBobber_117 : decode cX11_readBobber 117 = .ok (.aload_n 0, 1) := by decide +kernel
theorem dX11_readBobber_118 : decode cX11_readBobber 118 = .ok (.getfield 409, 3) := by decide +kernel
theorem dX11_readBobber_121 : decode cX11_readBobber 121 = .ok (.iconst 0, 1) := by decide +kernel
theorem dX11_readBobber_122 : decode cX11_readBobber 122 = .ok (.iastore, 1) := by decide +kernel
theorem dX11_readBobber_123 : decode cX11_readBobber 123 = .ok (.aload_n 0, 1) := by decide +kernel
theorem dX11_readBobber_124 : decode cX11_readBobber 124 = .ok (.ldc2_w 229, 3) := by decide +kernel
theorem dX11_readBobber_127 : decode cX11_readBobber 127 = .ok (.invokevirtual 406, 3) := by decide +kernel
theorem dX11_readBobber_130 : decode cX11_readBobber 130 = .ok (.ifCond .eq 7, 3) := by decide +kernel
theorem dX11_readBobber_133 : decode cX11_readBobber 133 = .ok (.aload_n 0, 1) := by decide +kernel
theorem dX11_readBobber_134 : decode cX11_readBobber 134 = .ok (.invokevirtual 412, 3) := by decide +kernel
theorem dX11_readBobber_137 : decode cX11_readBobber 137 = .ok (.aload_n 0, 1) := by decide +kernel
theorem dX11_readBobber_138 : decode cX11_readBobber 138 = .ok (.getfield 224, 3) := by decide +kernel
theorem dX11_readBobber_141 : decode cX11_readBobber 141 = .ok (.ifCond .ne 13, 3) := by decide +kernel
theorem dX11_readBobber_144 : decode cX11_readBobber 144 = .ok (.aload_n 0, 1) := by decide +kernel
theorem dX11_readBobber_145 : decode cX11_readBobber 145 = .ok (.dup, 1) := by decide +kernel
theorem dX11_readBobber_146 : decode cX11_readBobber 146 = .ok (.getfield 409, 3) := by decide +kernel
theorem dX11_readBobber_149 : decode cX11_readBobber 149 = .ok (.iconst 1, 1) := by decide +kernel
theorem dX11_readBobber_150 : decode cX11_readBobber 150 = .ok (.iadd, 1) := by decide +kernel
theorem dX11_readBobber_151 : decode cX11_readBobber 151 = .ok (.putfield 409, 3) := by decide +kernel
theorem dX11_readBobber_154 : decode cX11_readBobber 154 = .ok (.return_, 1) := by decide +kernel
theorem dX11_readBy_0 : decode cX11_readBy 0 = .ok (.aload_n 0, 1) := by decide +kernel
theorem dX11_readBy_1 : decode cX11_readBy 1 = .ok (.invokevirtual 372, 3) := by decide +kernel
theorem dX11_readBy_4 : decode cX11_readBy 4 = .ok (.ifCond .ne 11, 3) := by decide +kernel
theorem dX11_readBy_7 : decode cX11_readBy 7 = .ok (.aload_n 0, 1) := by decide +kernel
theorem dX11_readBy_8 : decode cX11_readBy 8 = .ok (.iconst 2, 1) := by decide +kernel
theorem dX11_readBy_9 : decode cX11_readBy 9 = .ok (.invokevirtual 290, 3) := by decide +kernel
theorem dX11_readBy_12 : decode cX11_readBy 12 = .ok (.goto 20, 3) := by decide +kernel
theorem dX11_readBy_15 : decode cX11_readBy 15 = .ok (.aload_n 0, 1) := by decide +kernel
theorem dX11_readBy_16 : decode cX11_readBy 16 = .ok (.iconst 0, 1) := by decide +kernel
theorem dX11_readBy_17 : decode cX11_readBy 17 = .ok (.aload_n 0, 1) := by decide +kernel
theorem dX11_readBy_18 : decode cX11_readBy 18 = .ok (.getfield 394, 3) := by decide +kernel
theorem dX11_readBy_21 : decode cX11_readBy 21 = .ok (.invokevirtual 375, 3) := by decide +kernel
theorem dX11_readBy_24 : decode cX11_readBy 24 = .ok (.ifCond .ge 8, 3) := by decide +kernel
theorem dX11_readBy_27 : decode cX11_readBy 27 = .ok (.aload_n 0, 1) := by decide +kernel
theorem dX11_readBy_28 : decode cX11_readBy 28 = .ok (.iconst 5, 1) := by decide +kernel
theorem dX11_readBy_29 : decode cX11_readBy 29 = .ok (.invokevirtual 290, 3) := by decide +kernel
theorem dX11_readBy_32 : decode cX11_readBy 32 = .ok (.aload_n 0, 1) := by decide +kernel
theorem dX11_readBy_33 : decode cX11_readBy 33 = .ok (.getfield 224, 3) := by decide +kernel
theorem dX11_readBy_36 : decode cX11_readBy 36 = .ok (.ifCond .le 4, 3) := by decide +kernel
theorem dX11_readBy_39 : decode cX11_readBy 39 = .ok (.return_, 1) := by decide +kernel
theorem dX11_readBy_40 : decode cX11_readBy 40 = .ok (.aload_n 0, 1) := by decide +kernel
theorem dX11_readBy_41 : decode cX11_readBy 41 = .ok (.getfield 75, 3) := by decide +kernel
theorem dX11_readBy_44 : decode cX11_readBy 44 = .ok (.aload_n 0, 1) := by decide +kernel
theorem dX11_readBy_45 : decode cX11_readBy 45 = .ok (.getfield 409, 3) := by decide +kernel
theorem dX11_readBy_48 : decode cX11_readBy 48 = .ok (.aload_n 0, 1) := by decide +kernel
theorem dX11_readBy_49 : decode cX11_readBy 49 = .ok (.iconst 0, 1) := by decide +kernel
theorem dX11_readBy_50 : decode cX11_readBy 50 = .ok (.aload_n 0, 1) := by decide +kernel
theorem dX11_readBy_51 : decode cX11_readBy 51 = .ok (.getfield 394, 3) := by decide +kernel
theorem dX11_readBy_54 : decode cX11_readBy 54 = .ok (.invokevirtual 375, 3) := by decide +kernel
theorem dX11_readBy_57 : decode cX11_readBy 57 = .ok (.iastore, 1) := by decide +kernel
theorem dX11_readBy_58 : decode cX11_readBy 58 = .ok (.aload_n 0, 1) := by decide +kernel
theorem dX11_readBy_59 : decode cX11_readBy 59 = .ok (.invokevirtual 287, 3) := by decide +kernel
theorem dX11_readBy_62 : decode cX11_readBy 62 = .ok (.return_, 1) := by decide +kernel
theorem dX11_readDraw_0 : decode cX11_readDraw 0 = .ok (.aload_n 0, 1) := by decide +kernel
theorem dX11_readDraw_1 : decode cX11_readDraw 1 = .ok (.iconst 1, 1) := by decide +kernel
theorem dX11_readDraw_2 : decode cX11_readDraw 2 = .ok (.putfield 415, 3) := by decide +kernel
theorem dX11_readDraw_5 : decode cX11_readDraw 5 = .ok (.aload_n 0, 1) := by decide +kernel
theorem dX11_readDraw_6 : decode cX11_readDraw 6 = .ok (.aload_n 0, 1) := by decide +kernel
theorem dX11_readDraw_7 : decode cX11_readDraw 7 = .ok (.ldc2_w 261, 3) := by decide +kernel
theorem dX11_readDraw_10 : decode cX11_readDraw 10 = .ok (.iconst 0, 1) := by decide +kernel
theorem dX11_readDraw_11 : decode cX11_readDraw 11 = .ok (.sipush 999, 3) := by decide +kernel
theorem dX11_readDraw_14 : decode cX11_readDraw 14 = .ok (.invokevirtual 378, 3) := by decide +kernel
theorem dX11_readDraw_17 : decode cX11_readDraw 17 = .ok (.putfield 419, 3) := by decide +kernel
theorem dX11_readDraw_20 : decode cX11_readDraw 20 = .ok (.return_, 1) := by decide +kernel
theorem dX11_readBite_0 : decode cX11_readBite 0 = .ok (.aload_n 0, 1) := by decide +kernel
theorem dX11_readBite_1 : decode cX11_readBite 1 = .ok (.iconst 1, 1) := by decide +kernel
theorem dX11_readBite_2 : decode cX11_readBite 2 = .ok (.putfield 422, 3) := by decide +kernel
theorem dX11_readBite_5 : decode cX11_readBite 5 = .ok (.aload_n 0, 1) := by decide +kernel
theorem dX11_readBite_6 : decode cX11_readBite 6 = .ok (.aload_n 0, 1) := by decide +kernel
theorem dX11_readBite_7 : decode cX11_readBite 7 = .ok (.ldc2_w 271, 3) := by decide +kernel
theorem dX11_readBite_10 : decode cX11_readBite 10 = .ok (.iconst 0, 1) := by decide +kernel
theorem dX11_readBite_11 : decode cX11_readBite 11 = .ok (.bipush 9, 2) := by decide +kernel
theorem dX11_readBite_13 : decode cX11_readBite 13 = .ok (.invokevirtual 378, 3) := by decide +kernel
theorem dX11_readBite_16 : decode cX11_readBite 16 = .ok (.putfield 425, 3) := by decide +kernel
theorem dX11_readBite_19 : decode cX11_readBite 19 = .ok (.return_, 1) := by decide +kernel
theorem dX11_readLine_0 : decode cX11_readLine 0 = .ok (.aload_n 0, 1) := by decide +kernel
theorem dX11_readLine_1 : decode cX11_readLine 1 = .ok (.ldc2_w 227, 3) := by decide +kernel
theorem dX11_readLine_4 : decode cX11_readLine 4 = .ok (.invokevirtual 283, 3) := by decide +kernel
theorem dX11_readLine_7 : decode cX11_readLine 7 = .ok (.ifCond .eq 17, 3) := by decide +kernel
theorem dX11_readLine_10 : decode cX11_readLine 10 = .ok (.aload_n 0, 1) := by decide +kernel
theorem dX11_readLine_11 : decode cX11_readLine 11 = .ok (.getfield 382, 3) := by decide +kernel
theorem dX11_readLine_14 : decode cX11_readLine 14 = .ok (.ifCond .ne 10, 3) := by decide +kernel
theorem dX11_readLine_17 : decode cX11_readLine 17 = .ok (.aload_n 0, 1) := by decide +kernel
theorem dX11_readLine_18 : decode cX11_readLine 18 = .ok (.invokevirtual 428, 3) := by decide +kernel
theorem dX11_readLine_21 : decode cX11_readLine 21 = .ok (.goto 165, 3) := by decide +kernel
theorem dX11_readLine_24 : decode cX11_readLine 24 = .ok (.aload_n 0, 1) := by decide +kernel
theorem dX11_readLine_25 : decode cX11_readLine 25 = .ok (.getfield 382, 3) := by decide +kernel
theorem dX11_readLine_28 : decode cX11_readLine 28 = .ok (.ifCond .ne 11, 3) := by decide +kernel
theorem dX11_readLine_31 : decode cX11_readLine 31 = .ok (.aload_n 0, 1) := by decide +kernel
theorem dX11_readLine_32 : decode cX11_readLine 32 = .ok (.iconst 2, 1) := by decide +kernel
theorem dX11_readLine_33 : decode cX11_readLine 33 = .ok (.invokevirtual 290, 3) := by decide +kernel
theorem dX11_readLine_36 : decode cX11_readLine 36 = .ok (.goto 150, 3) := by decide +kernel
theorem dX11_readLine_39 : decode cX11_readLine 39 = .ok (.aload_n 0, 1) := by decide +kernel
theorem dX11_readLine_40 : decode cX11_readLine 40 = .ok (.ldc2_w 231, 3) := by decide +kernel
theorem dX11_readLine_43 : decode cX11_readLine 43 = .ok (.invokevirtual 283, 3) := by decide +kernel
theorem dX11_readLine_46 : decode cX11_readLine 46 = .ok (.ifCond .eq 10, 3) := by decide +kernel
theorem dX11_readLine_49 : decode cX11_readLine 49 = .ok (.aload_n 0, 1) := by decide +kernel
theorem dX11_readLine_50 : decode cX11_readLine 50 = .ok (.invokevirtual 431, 3) := by decide +kernel
theorem dX11_readLine_53 : decode cX11_readLine 53 = .ok (.goto 133, 3) := by decide +kernel
theorem dX11_readLine_56 : decode cX11_readLine 56 = .ok (.aload_n 0, 1) := by decide +kernel
theorem dX11_readLine_57 : decode cX11_readLine 57 = .ok (.ldc2_w 241, 3) := by decide +kernel
theorem dX11_readLine_60 : decode cX11_readLine 60 = .ok (.invokevirtual 283, 3) := by decide +kernel
theorem dX11_readLine_63 : decode cX11_readLine 63 = .ok (.ifCond .eq 19, 3) := by decide +kernel
theorem dX11_readLine_66 : decode cX11_readLine 66 = .ok (.aload_n 0, 1) := by decide +kernel
theorem dX11_readLine_67 : decode cX11_readLine 67 = .ok (.getfield 394, 3) := by decide +kernel
theorem dX11_readLine_70 : decode cX11_readLine 70 = .ok (.bipush 6, 2) := by decide +kernel
theorem dX11_readLine_72 : decode cX11_readLine 72 = .ok (.if_icmp .ge 10, 3) := by decide +kernel
theorem dX11_readLine_75 : decode cX11_readLine 75 = .ok (.aload_n 0, 1) := by decide +kernel
theorem dX11_readLine_76 : decode cX11_readLine 76 = .ok (.invokevirtual 434, 3) := by decide +kernel
theorem dX11_readLine_79 : decode cX11_readLine 79 = .ok (.goto 107, 3) := by decide +kernel
theorem dX11_readLine_82 : decode cX11_readLine 82 = .ok (.aload_n 0, 1) := by decide +kernel
theorem dX11_readLine_83 : decode cX11_readLine 83 = .ok (.ldc2_w 243, 3) := by decide +kernel
theorem dX11_readLine_86 : decode cX11_readLine 86 = .ok (.invokevirtual 283, 3) := by decide +kernel
theorem dX11_readLine_89 : decode cX11_readLine 89 = .ok (.ifCond .eq 19, 3) := by decide +kernel
theorem dX11_readLine_92 : decode cX11_readLine 92 = .ok (.aload_n 0, 1) := by decide +kernel
theorem dX11_readLine_93 : decode cX11_readLine 93 = .ok (.getfield 400, 3) := by decide +kernel
theorem dX11_readLine_96 : decode cX11_readLine 96 = .ok (.bipush 10, 2) := by decide +kernel
theorem dX11_readLine_98 : decode cX11_readLine 98 = .ok (.if_icmp .ge 10, 3) := by decide +kernel
theorem dX11_readLine_101 : decode cX11_readLine 101 = .ok (.aload_n 0, 1) := by decide +kernel
theorem dX11_readLine_102 : decode cX11_readLine 102 = .ok (.invokevirtual 437, 3) := by decide +kernel
theorem dX11_readLine_105 : decode cX11_readLine 105 = .ok (.goto 81, 3) := by decide +kernel
theorem dX11_readLine_108 : decode cX11_readLine 108 = .ok (.aload_n 0, 1) := by decide +kernel
theorem dX11_readLine_109 : decode cX11_readLine 109 = .ok (.ldc2_w 253, 3) := by decide +kernel
theorem dX11_readLine_112 : decode cX11_readLine 112 = .ok (.invokevirtual 283, 3) := by decide +kernel
theorem dX11_readLine_115 : decode cX11_readLine 115 = .ok (.ifCond .eq 18, 3) := by decide +kernel
theorem dX11_readLine_118 : decode cX11_readLine 118 = .ok (.aload_n 0, 1) := by decide +kernel
theorem dX11_readLine_119 : decode cX11_readLine 119 = .ok (.getfield 409, 3) := by decide +kernel
theorem dX11_readLine_122 : decode cX11_readLine 122 = .ok (.iconst 4, 1) := by decide +kernel
theorem dX11_readLine_123 : decode cX11_readLine 123 = .ok (.if_icmp .ge 10, 3) := by decide +kernel
theorem dX11_readLine_126 : decode cX11_readLine 126 = .ok (.aload_n 0, 1) := by decide +kernel
theorem dX11_readLine_127 : decode cX11_readLine 127 = .ok (.invokevirtual 440, 3) := by decide +kernel
theorem dX11_readLine_130 : decode cX11_readLine 130 = .ok (.goto 56, 3) := by decide +kernel
theorem dX11_readLine_133 : decode cX11_readLine 133 = .ok (.aload_n 0, 1) := by decide +kernel
theorem dX11_readLine_134 : decode cX11_readLine 134 = .ok (.ldc2_w 261, 3) := by decide +kernel
theorem dX11_readLine_137 : decode cX11_readLine 137 = .ok (.invokevirtual 283, 3) := by decide +kernel
theorem dX11_readLine_140 : decode cX11_readLine 140 = .ok (.ifCond .eq 17, 3) := by decide +kernel
theorem dX11_readLine_143 : decode cX11_readLine 143 = .ok (.aload_n 0, 1) := by decide +kernel
theorem dX11_readLine_144 : decode cX11_readLine 144 = .ok (.getfield 415, 3) := by decide +kernel
theorem dX11_readLine_147 : decode cX11_readLine 147 = .ok (.ifCond .ne 10, 3) := by decide +kernel
theorem dX11_readLine_150 : decode cX11_readLine 150 = .ok (.aload_n 0, 1) := by decide +kernel
theorem dX11_readLine_151 : decode cX11_readLine 151 = .ok (.invokevirtual 443, 3) := by decide +kernel
theorem dX11_readLine_154 : decode cX11_readLine 154 = .ok (.goto 32, 3) := by decide +kernel
theorem dX11_readLine_157 : decode cX11_readLine 157 = .ok (.aload_n 0, 1) := by decide +kernel
theorem dX11_readLine_158 : decode cX11_readLine 158 = .ok (.ldc2_w 271, 3) := by decide +kernel
theorem dX11_readLine_161 : decode cX11_readLine 161 = .ok (.invokevirtual 283, 3) := by decide +kernel
theorem dX11_readLine_164 : decode cX11_readLine 164 = .ok (.ifCond .eq 17, 3) := by decide +kernel
theorem dX11_readLine_167 : decode cX11_readLine 167 = .ok (.aload_n 0, 1) := by decide +kernel
theorem dX11_readLine_168 : decode cX11_readLine 168 = .ok (.getfield 422, 3) := by decide +kernel
theorem dX11_readLine_171 : decode cX11_readLine 171 = .ok (.ifCond .ne 10, 3) := by decide +kernel
theorem dX11_readLine_174 : decode cX11_readLine 174 = .ok (.aload_n 0, 1) := by decide +kernel
theorem dX11_readLine_175 : decode cX11_readLine 175 = .ok (.invokevirtual 446, 3) := by decide +kernel
theorem dX11_readLine_178 : decode cX11_readLine 178 = .ok (.goto 8, 3) := by decide +kernel
theorem dX11_readLine_181 : decode cX11_readLine 181 = .ok (.aload_n 0, 1) := by decide +kernel
theorem dX11_readLine_182 : decode cX11_readLine 182 = .ok (.iconst 2, 1) := by decide +kernel
theorem dX11_readLine_183 : decode cX11_readLine 183 = .ok (.invokevirtual 290, 3) := by decide +kernel
theorem dX11_readLine_186 : decode cX11_readLine 186 = .ok (.aload_n 0, 1) := by decide +kernel
theorem dX11_readLine_187 : decode cX11_readLine 187 = .ok (.getfield 224, 3) := by decide +kernel
theorem dX11_readLine_190 : decode cX11_readLine 190 = .ok (.ifCond .ne 17, 3) := by decide +kernel
theorem dX11_readLine_193 : decode cX11_readLine 193 = .ok (.aload_n 0, 1) := by decide +kernel
theorem dX11_readLine_194 : decode cX11_readLine 194 = .ok (.getfield 211, 3) := by decide +kernel
theorem dX11_readLine_197 : decode cX11_readLine 197 = .ok (.bipush 59, 2) := by decide +kernel
theorem dX11_readLine_199 : decode cX11_readLine 199 = .ok (.if_icmp .eq 8, 3) := by decide +kernel
theorem dX11_readLine_202 : decode cX11_readLine 202 = .ok (.aload_n 0, 1) := by decide +kernel
theorem dX11_readLine_203 : decode cX11_readLine 203 = .ok (.iconst 2, 1) := by decide +kernel
theorem dX11_readLine_204 : decode cX11_readLine 204 = .ok (.invokevirtual 290, 3) := by decide +kernel
theorem dX11_readLine_207 : decode cX11_readLine 207 = .ok (.aload_n 0, 1) := by decide +kernel
theorem dX11_readLine_208 : decode cX11_readLine 208 = .ok (.getfield 224, 3) := by decide +kernel
theorem dX11_readLine_211 : decode cX11_readLine 211 = .ok (.ifCond .ne 7, 3) := by decide +kernel
theorem dX11_readLine_214 : decode cX11_readLine 214 = .ok (.aload_n 0, 1) := by decide +kernel
theorem dX11_readLine_215 : decode cX11_readLine 215 = .ok (.invokevirtual 287, 3) := by decide +kernel
theorem dX11_readLine_218 : decode cX11_readLine 218 = .ok (.return_, 1) := by decide +kernel
theorem dX11_readAll_0 : decode cX11_readAll 0 = .ok (.aload_n 0, 1) := by decide +kernel
theorem dX11_readAll_1 : decode cX11_readAll 1 = .ok (.aload_n 0, 1) := by decide +kernel
theorem dX11_readAll_2 : decode cX11_readAll 2 = .ok (.getfield 184, 3) := by decide +kernel
theorem dX11_readAll_5 : decode cX11_readAll 5 = .ok (.putfield 194, 3) := by decide +kernel
theorem dX11_readAll_8 : decode cX11_readAll 8 = .ok (.aload_n 0, 1) := by decide +kernel
theorem dX11_readAll_9 : decode cX11_readAll 9 = .ok (.iconst 0, 1) := by decide +kernel
theorem dX11_readAll_10 : decode cX11_readAll 10 = .ok (.putfield 184, 3) := by decide +kernel
theorem dX11_readAll_13 : decode cX11_readAll 13 = .ok (.aload_n 0, 1) := by decide +kernel
theorem dX11_readAll_14 : decode cX11_readAll 14 = .ok (.iconst 0, 1) := by decide +kernel
theorem dX11_readAll_15 : decode cX11_readAll 15 = .ok (.putfield 191, 3) := by decide +kernel
theorem dX11_readAll_18 : decode cX11_readAll 18 = .ok (.aload_n 0, 1) := by decide +kernel
