theorem dX11_init_0 : decode cX11_init 0 = .ok (.aload_n 0, 1) := by decide +kernel
theorem dX11_init_1 : decode cX11_init 1 = .ok (.invokespecial 1, 3) := by decide +kernel
theorem dX11_init_4 : decode cX11_init 4 = .ok (.aload_n 0, 1) := by decide +kernel
theorem dX11_init_5 : decode cX11_init 5 = .ok (.bipush 20, 2) := by decide +kernel
theorem dX11_init_7 : decode cX11_init 7 = .ok (.newarray .int, 2) := by decide +kernel
theorem dX11_init_9 : decode cX11_init 9 = .ok (.putfield 7, 3) := by decide +kernel
theorem dX11_init_12 : decode cX11_init 12 = .ok (.aload_n 0, 1) := by decide +kernel
theorem dX11_init_13 : decode cX11_init 13 = .ok (.bipush 20, 2) := by decide +kernel
theorem dX11_init_15 : decode cX11_init 15 = .ok (.newarray .int, 2) := by decide +kernel
theorem dX11_init_17 : decode cX11_init 17 = .ok (.putfield 13, 3) := by decide +kernel
theorem dX11_init_20 : decode cX11_init 20 = .ok (.aload_n 0, 1) := by decide +kernel
theorem dX11_init_21 : decode cX11_init 21 = .ok (.bipush 20, 2) := by decide +kernel
theorem dX11_init_23 : decode cX11_init 23 = .ok (.newarray .int, 2) := by decide +kernel
theorem dX11_init_25 : decode cX11_init 25 = .ok (.putfield 16, 3) := by decide +kernel
theorem dX11_init_28 : decode cX11_init 28 = .ok (.aload_n 0, 1) := by decide +kernel
theorem dX11_init_29 : decode cX11_init 29 = .ok (.bipush 20, 2) := by decide +kernel
theorem dX11_init_31 : decode cX11_init 31 = .ok (.newarray .int, 2) := by decide +kernel
theorem dX11_init_33 : decode cX11_init 33 = .ok (.putfield 19, 3) := by decide +kernel
theorem dX11_init_36 : decode cX11_init 36 = .ok (.aload_n 0, 1) := by decide +kernel
theorem dX11_init_37 : decode cX11_init 37 = .ok (.bipush 20, 2) := by decide +kernel
theorem dX11_init_39 : decode cX11_init 39 = .ok (.newarray .int, 2) := by decide +kernel
theorem dX11_init_41 : decode cX11_init 41 = .ok (.putfield 22, 3) := by decide +kernel
theorem dX11_init_44 : decode cX11_init 44 = .ok (.aload_n 0, 1) := by decide +kernel
theorem dX11_init_45 : decode cX11_init 45 = .ok (.bipush 20, 2) := by decide +kernel
theorem dX11_init_47 : decode cX11_init 47 = .ok (.newarray .int, 2) := by decide +kernel
theorem dX11_init_49 : decode cX11_init 49 = .ok (.putfield 25, 3) := by decide +kernel
theorem dX11_init_52 : decode cX11_init 52 = .ok (.aload_n 0, 1) := by decide +kernel
theorem dX11_init_53 : decode cX11_init 53 = .ok (.bipush 60, 2) := by decide +kernel
theorem dX11_init_55 : decode cX11_init 55 = .ok (.newarray .int, 2) := by decide +kernel
theorem dX11_init_57 : decode cX11_init 57 = .ok (.putfield 28, 3) := by decide +kernel
theorem dX11_init_60 : decode cX11_init 60 = .ok (.aload_n 0, 1) := by decide +kernel
theorem dX11_init_61 : decode cX11_init 61 = .ok (.bipush 60, 2) := by decide +kernel
theorem dX11_init_63 : decode cX11_init 63 = .ok (.newarray .int, 2) := by decide +kernel
theorem dX11_init_65 : decode cX11_init 65 = .ok (.putfield 31, 3) := by decide +kernel
theorem dX11_init_68 : decode cX11_init 68 = .ok (.aload_n 0, 1) := by decide +kernel
theorem dX11_init_69 : decode cX11_init 69 = .ok (.bipush 60, 2) := by decide +kernel
theorem dX11_init_71 : decode cX11_init 71 = .ok (.newarray .int, 2) := by decide +kernel
theorem dX11_init_73 : decode cX11_init 73 = .ok (.putfield 34, 3) := by decide +kernel
theorem dX11_init_76 : decode cX11_init 76 = .ok (.aload_n 0, 1) := by decide +kernel
theorem dX11_init_77 : decode cX11_init 77 = .ok (.bipush 60, 2) := by decide +kernel
theorem dX11_init_79 : decode cX11_init 79 = .ok (.newarray .int, 2) := by decide +kernel
theorem dX11_init_81 : decode cX11_init 81 = .ok (.putfield 37, 3) := by decide +kernel
theorem dX11_init_84 : decode cX11_init 84 = .ok (.aload_n 0, 1) := by decide +kernel
theorem dX11_init_85 : decode cX11_init 85 = .ok (.bipush 60, 2) := by decide +kernel
theorem dX11_init_87 : decode cX11_init 87 = .ok (.newarray .int, 2) := by decide +kernel
theorem dX11_init_89 : decode cX11_init 89 = .ok (.putfield 40, 3) := by decide +kernel
theorem dX11_init_92 : decode cX11_init 92 = .ok (.aload_n 0, 1) := by decide +kernel
theorem dX11_init_93 : decode cX11_init 93 = .ok (.bipush 60, 2) := by decide +kernel
theorem dX11_init_95 : decode cX11_init 95 = .ok (.newarray .int, 2) := by decide +kernel
theorem dX11_init_97 : decode cX11_init 97 = .ok (.putfield 43, 3) := by decide +kernel
theorem dX11_init_100 : decode cX11_init 100 = .ok (.aload_n 0, 1) := by decide +kernel
theorem dX11_init_101 : decode cX11_init 101 = .ok (.bipush 60, 2) := by decide +kernel
theorem dX11_init_103 : decode cX11_init 103 = .ok (.newarray .int, 2) := by decide +kernel
theorem dX11_init_105 : decode cX11_init 105 = .ok (.putfield 46, 3) := by decide +kernel
theorem dX11_init_108 : decode cX11_init 108 = .ok (.aload_n 0, 1) := by decide +kernel
theorem dX11_init_109 : decode cX11_init 109 = .ok (.bipush 60, 2) := by decide +kernel
theorem dX11_init_111 : decode cX11_init 111 = .ok (.newarray .int, 2) := by decide +kernel
theorem dX11_init_113 : decode cX11_init 113 = .ok (.putfield 49, 3) := by decide +kernel
theorem dX11_init_116 : decode cX11_init 116 = .ok (.aload_n 0, 1) := by decide +kernel
theorem dX11_init_117 : decode cX11_init 117 = .ok (.bipush 60, 2) := by decide +kernel
theorem dX11_init_119 : decode cX11_init 119 = .ok (.newarray .boolean, 2) := by decide +kernel
theorem dX11_init_121 : decode cX11_init 121 = .ok (.putfield 52, 3) := by decide +kernel
theorem dX11_init_124 : decode cX11_init 124 = .ok (.aload_n 0, 1) := by decide +kernel
theorem dX11_init_125 : decode cX11_init 125 = .ok (.iconst 4, 1) := by decide +kernel
theorem dX11_init_126 : decode cX11_init 126 = .ok (.newarray .int, 2) := by decide +kernel
theorem dX11_init_128 : decode cX11_init 128 = .ok (.putfield 56, 3) := by decide +kernel
theorem dX11_init_131 : decode cX11_init 131 = .ok (.aload_n 0, 1) := by decide +kernel
theorem dX11_init_132 : decode cX11_init 132 = .ok (.sipush 240, 3) := by decide +kernel
theorem dX11_init_135 : decode cX11_init 135 = .ok (.newarray .int, 2) := by decide +kernel
theorem dX11_init_137 : decode cX11_init 137 = .ok (.putfield 59, 3) := by decide +kernel
theorem dX11_init_140 : decode cX11_init 140 = .ok (.aload_n 0, 1) := by decide +kernel
theorem dX11_init_141 : decode cX11_init 141 = .ok (.iconst 4, 1) := by decide +kernel
theorem dX11_init_142 : decode cX11_init 142 = .ok (.newarray .boolean, 2) := by decide +kernel
theorem dX11_init_144 : decode cX11_init 144 = .ok (.putfield 62, 3) := by decide +kernel
theorem dX11_init_147 : decode cX11_init 147 = .ok (.aload_n 0, 1) := by decide +kernel
theorem dX11_init_148 : decode cX11_init 148 = .ok (.iconst 4, 1) := by decide +kernel
theorem dX11_init_149 : decode cX11_init 149 = .ok (.newarray .int, 2) := by decide +kernel
theorem dX11_init_151 : decode cX11_init 151 = .ok (.putfield 65, 3) := by decide +kernel
theorem dX11_init_154 : decode cX11_init 154 = .ok (.aload_n 0, 1) := by decide +kernel
theorem dX11_init_155 : decode cX11_init 155 = .ok (.sipush 200, 3) := by decide +kernel
theorem dX11_init_158 : decode cX11_init 158 = .ok (.newarray .byte, 2) := by decide +kernel
theorem dX11_init_160 : decode cX11_init 160 = .ok (.putfield 68, 3) := by decide +kernel
theorem dX11_init_163 : decode cX11_init 163 = .ok (.aload_n 0, 1) := by decide +kernel
theorem dX11_init_164 : decode cX11_init 164 = .ok (.bipush 40, 2) := by decide +kernel
theorem dX11_init_166 : decode cX11_init 166 = .ok (.newarray .int, 2) := by decide +kernel
theorem dX11_init_168 : decode cX11_init 168 = .ok (.putfield 72, 3) := by decide +kernel
theorem dX11_init_171 : decode cX11_init 171 = .ok (.aload_n 0, 1) := by decide +kernel
theorem dX11_init_172 : decode cX11_init 172 = .ok (.bipush 40, 2) := by decide +kernel
theorem dX11_init_174 : decode cX11_init 174 = .ok (.newarray .int, 2) := by decide +kernel
theorem dX11_init_176 : decode cX11_init 176 = .ok (.putfield 75, 3) := by decide +kernel
theorem dX11_init_179 : decode cX11_init 179 = .ok (.aload_n 0, 1) := by decide +kernel
theorem dX11_init_180 : decode cX11_init 180 = .ok (.bipush 40, 2) := by decide +kernel
theorem dX11_init_182 : decode cX11_init 182 = .ok (.newarray .int, 2) := by decide +kernel
theorem dX11_init_184 : decode cX11_init 184 = .ok (.putfield 78, 3) := by decide +kernel
theorem dX11_init_187 : decode cX11_init 187 = .ok (.aload_n 0, 1) := by decide +kernel
theorem dX11_init_188 : decode cX11_init 188 = .ok (.bipush 40, 2) := by decide +kernel
theorem dX11_init_190 : decode cX11_init 190 = .ok (.newarray .int, 2) := by decide +kernel
theorem dX11_init_192 : decode cX11_init 192 = .ok (.putfield 81, 3) := by decide +kernel
theorem dX11_init_195 : decode cX11_init 195 = .ok (.aload_n 0, 1) := by decide +kernel
theorem dX11_init_196 : decode cX11_init 196 = .ok (.bipush 40, 2) := by decide +kernel
theorem dX11_init_198 : decode cX11_init 198 = .ok (.newarray .int, 2) := by decide +kernel
theorem dX11_init_200 : decode cX11_init 200 = .ok (.putfield 84, 3) := by decide +kernel
theorem dX11_init_203 : decode cX11_init 203 = .ok (.aload_n 0, 1) := by decide +kernel
theorem dX11_init_204 : decode cX11_init 204 = .ok (.sipush 8800, 3) := by decide +kernel
theorem dX11_init_207 : decode cX11_init 207 = .ok (.newarray .int, 2) := by decide +kernel
theorem dX11_init_209 : decode cX11_init 209 = .ok (.putfield 87, 3) := by decide +kernel
theorem dX11_init_212 : decode cX11_init 212 = .ok (.aload_n 0, 1) := by decide +kernel
theorem dX11_init_213 : decode cX11_init 213 = .ok (.sipush 8800, 3) := by decide +kernel
theorem dX11_init_216 : decode cX11_init 216 = .ok (.newarray .int, 2) := by decide +kernel
theorem dX11_init_218 : decode cX11_init 218 = .ok (.putfield 90, 3) := by decide +kernel
theorem dX11_init_221 : decode cX11_init 221 = .ok (.aload_n 0, 1) := by decide +kernel
theorem dX11_init_222 : decode cX11_init 222 = .ok (.sipush 220, 3) := by decide +kernel
theorem dX11_init_225 : decode cX11_init 225 = .ok (.newarray .int, 2) := by decide +kernel
theorem dX11_init_227 : decode cX11_init 227 = .ok (.putfield 93, 3) := by decide +kernel
theorem dX11_init_230 : decode cX11_init 230 = .ok (.aload_n 0, 1) := by decide +kernel
theorem dX11_init_231 : decode cX11_init 231 = .ok (.bipush 13, 2) := by decide +kernel
theorem dX11_init_233 : decode cX11_init 233 = .ok (.newarray .int, 2) := by decide +kernel
theorem dX11_init_235 : decode cX11_init 235 = .ok (.putfield 96, 3) := by decide +kernel
theorem dX11_init_238 : decode cX11_init 238 = .ok (.aload_n 0, 1) := by decide +kernel
theorem dX11_init_239 : decode cX11_init 239 = .ok (.sipush 220, 3) := by decide +kernel
theorem dX11_init_242 : decode cX11_init 242 = .ok (.newarray .int, 2) := by decide +kernel
theorem dX11_init_244 : decode cX11_init 244 = .ok (.putfield 99, 3) := by decide +kernel
theorem dX11_init_247 : decode cX11_init 247 = .ok (.aload_n 0, 1) := by decide +kernel
theorem dX11_init_248 : decode cX11_init 248 = .ok (.sipush 200, 3) := by decide +kernel
theorem dX11_init_251 : decode cX11_init 251 = .ok (.newarray .int, 2) := by decide +kernel
theorem dX11_init_253 : decode cX11_init 253 = .ok (.putfield 102, 3) := by decide +kernel
theorem dX11_init_256 : decode cX11_init 256 = .ok (.aload_n 0, 1) := by decide +kernel
theorem dX11_init_257 : decode cX11_init 257 = .ok (.sipush 200, 3) := by decide +kernel
theorem dX11_init_260 : decode cX11_init 260 = .ok (.newarray .int, 2) := by decide +kernel
theorem dX11_init_262 : decode cX11_init 262 = .ok (.putfield 105, 3) := by decide +kernel
theorem dX11_init_265 : decode cX11_init 265 = .ok (.aload_n 0, 1) := by decide +kernel
theorem dX11_init_266 : decode cX11_init 266 = .ok (.sipush 200, 3) := by decide +kernel
theorem dX11_init_269 : decode cX11_init 269 = .ok (.newarray .int, 2) := by decide +kernel
theorem dX11_init_271 : decode cX11_init 271 = .ok (.putfield 108, 3) := by decide +kernel
theorem dX11_init_274 : decode cX11_init 274 = .ok (.aload_n 0, 1) := by decide +kernel
theorem dX11_init_275 : decode cX11_init 275 = .ok (.sipush 200, 3) := by decide +kernel
theorem dX11_init_278 : decode cX11_init 278 = .ok (.newarray .int, 2) := by decide +kernel
theorem dX11_init_280 : decode cX11_init 280 = .ok (.putfield 111, 3) := by decide +kernel
theorem dX11_init_283 : decode cX11_init 283 = .ok (.aload_n 0, 1) := by decide +kernel
theorem dX11_init_284 : decode cX11_init 284 = .ok (.sipush 200, 3) := by decide +kernel
theorem dX11_init_287 : decode cX11_init 287 = .ok (.newarray .int, 2) := by decide +kernel
theorem dX11_init_289 : decode cX11_init 289 = .ok (.putfield 114, 3) := by decide +kernel
theorem dX11_init_292 : decode cX11_init 292 = .ok (.aload_n 0, 1) := by decide +kernel
theorem dX11_init_293 : decode cX11_init 293 = .ok (.sipush 200, 3) := by decide +kernel
theorem dX11_init_296 : decode cX11_init 296 = .ok (.newarray .int, 2) := by decide +kernel
theorem dX11_init_298 : decode cX11_init 298 = .ok (.putfield 117, 3) := by decide +kernel
theorem dX11_init_301 : decode cX11_init 301 = .ok (.aload_n 0, 1) := by decide +kernel
theorem dX11_init_302 : decode cX11_init 302 = .ok (.sipush 200, 3) := by decide +kernel
theorem dX11_init_305 : decode cX11_init 305 = .ok (.newarray .int, 2) := by decide +kernel
theorem dX11_init_307 : decode cX11_init 307 = .ok (.putfield 120, 3) := by decide +kernel
theorem dX11_init_310 : decode cX11_init 310 = .ok (.aload_n 0, 1) := by decide +kernel
theorem dX11_init_311 : decode cX11_init 311 = .ok (.sipush 200, 3) := by decide +kernel
theorem dX11_init_314 : decode cX11_init 314 = .ok (.newarray .int, 2) := by decide +kernel
theorem dX11_init_316 : decode cX11_init 316 = .ok (.putfield 123, 3) := by decide +kernel
theorem dX11_init_319 : decode cX11_init 319 = .ok (.aload_n 0, 1) := by decide +kernel
theorem dX11_init_320 : decode cX11_init 320 = .ok (.sipush 200, 3) := by decide +kernel
theorem dX11_init_323 : decode cX11_init 323 = .ok (.newarray .int, 2) := by decide +kernel
theorem dX11_init_325 : decode cX11_init 325 = .ok (.putfield 126, 3) := by decide +kernel
theorem dX11_init_328 : decode cX11_init 328 = .ok (.aload_n 0, 1) := by decide +kernel
theorem dX11_init_329 : decode cX11_init 329 = .ok (.sipush 200, 3) := by decide +kernel
theorem dX11_init_332 : decode cX11_init 332 = .ok (.newarray .int, 2) := by decide +kernel
theorem dX11_init_334 : decode cX11_init 334 = .ok (.putfield 129, 3) := by decide +kernel
theorem dX11_init_337 : decode cX11_init 337 = .ok (.aload_n 0, 1) := by decide +kernel
theorem dX11_init_338 : decode cX11_init 338 = .ok (.sipush 200, 3) := by decide +kernel
theorem dX11_init_341 : decode cX11_init 341 = .ok (.newarray .int, 2) := by decide +kernel
theorem dX11_init_343 : decode cX11_init 343 = .ok (.putfield 132, 3) := by decide +kernel
theorem dX11_init_346 : decode cX11_init 346 = .ok (.aload_n 0, 1) := by decide +kernel
theorem dX11_init_347 : decode cX11_init 347 = .ok (.sipush 200, 3) := by decide +kernel
theorem dX11_init_350 : decode cX11_init 350 = .ok (.newarray .int, 2) := by decide +kernel
theorem dX11_init_352 : decode cX11_init 352 = .ok (.putfield 135, 3) := by decide +kernel
theorem dX11_init_355 : decode cX11_init 355 = .ok (.aload_n 0, 1) := by decide +kernel
theorem dX11_init_356 : decode cX11_init 356 = .ok (.sipush 200, 3) := by decide +kernel
theorem dX11_init_359 : decode cX11_init 359 = .ok (.newarray .int, 2) := by decide +kernel
theorem dX11_init_361 : decode cX11_init 361 = .ok (.putfield 138, 3) := by decide +kernel
theorem dX11_init_364 : decode cX11_init 364 = .ok (.aload_n 0, 1) := by decide +kernel
theorem dX11_init_365 : decode cX11_init 365 = .ok (.sipush 200, 3) := by decide +kernel
theorem dX11_init_368 : decode cX11_init 368 = .ok (.newarray .int, 2) := by decide +kernel
theorem dX11_init_370 : decode cX11_init 370 = .ok (.putfield 141, 3) := by decide +kernel
theorem dX11_init_373 : decode cX11_init 373 = .ok (.aload_n 0, 1) := by decide +kernel
theorem dX11_init_374 : decode cX11_init 374 = .ok (.sipush 200, 3) := by decide +kernel
theorem dX11_init_377 : decode cX11_init 377 = .ok (.newarray .int, 2) := by decide +kernel
theorem dX11_init_379 : decode cX11_init 379 = .ok (.putfield 144, 3) := by decide +kernel
theorem dX11_init_382 : decode cX11_init 382 = .ok (.aload_n 0, 1) := by decide +kernel
theorem dX11_init_383 : decode cX11_init 383 = .ok (.sipush 1600, 3) := by decide +kernel
theorem dX11_init_386 : decode cX11_init 386 = .ok (.newarray .int, 2) := by decide +kernel
theorem dX11_init_388 : decode cX11_init 388 = .ok (.putfield 147, 3) := by decide +kernel
theorem dX11_init_391 : decode cX11_init 391 = .ok (.aload_n 0, 1) := by decide +kernel
theorem dX11_init_392 : decode cX11_init 392 = .ok (.bipush 8, 2) := by decide +kernel
theorem dX11_init_394 : decode cX11_init 394 = .ok (.newarray .int, 2) := by decide +kernel
theorem dX11_init_396 : decode cX11_init 396 = .ok (.putfield 150, 3) := by decide +kernel
theorem dX11_init_399 : decode cX11_init 399 = .ok (.aload_n 0, 1) := by decide +kernel
theorem dX11_init_400 : decode cX11_init 400 = .ok (.bipush 60, 2) := by decide +kernel
theorem dX11_init_402 : decode cX11_init 402 = .ok (.newarray .boolean, 2) := by decide +kernel
theorem dX11_init_404 : decode cX11_init 404 = .ok (.putfield 153, 3) := by decide +kernel
theorem dX11_init_407 : decode cX11_init 407 = .ok (.aload_n 0, 1) := by decide +kernel
theorem dX11_init_408 : decode cX11_init 408 = .ok (.iconst 4, 1) := by decide +kernel
theorem dX11_init_409 : decode cX11_init 409 = .ok (.newarray .int, 2) := by decide +kernel
theorem dX11_init_411 : decode cX11_init 411 = .ok (.putfield 156, 3) := by decide +kernel
theorem dX11_init_414 : decode cX11_init 414 = .ok (.aload_n 0, 1) := by decide +kernel
theorem dX11_init_415 : decode cX11_init 415 = .ok (.iconst 4, 1) := by decide +kernel
theorem dX11_init_416 : decode cX11_init 416 = .ok (.newarray .int, 2) := by decide +kernel
theorem dX11_init_418 : decode cX11_init 418 = .ok (.putfield 159, 3) := by decide +kernel
theorem dX11_init_421 : decode cX11_init 421 = .ok (.aload_n 0, 1) := by decide +kernel
theorem dX11_init_422 : decode cX11_init 422 = .ok (.iconst 4, 1) := by decide +kernel
theorem dX11_init_423 : decode cX11_init 423 = .ok (.newarray .int, 2) := by decide +kernel
theorem dX11_init_425 : decode cX11_init 425 = .ok (.putfield 162, 3) := by decide +kernel
theorem dX11_init_428 : decode cX11_init 428 = .ok (.aload_n 0, 1) := by decide +kernel
theorem dX11_init_429 : decode cX11_init 429 = .ok (.iconst 4, 1) := by decide +kernel
theorem dX11_init_430 : decode cX11_init 430 = .ok (.newarray .int, 2) := by decide +kernel
theorem dX11_init_432 : decode cX11_init 432 = .ok (.putfield 165, 3) := by decide +kernel
theorem dX11_init_435 : decode cX11_init 435 = .ok (.aload_n 0, 1) := by decide +kernel
theorem dX11_init_436 : decode cX11_init 436 = .ok (.iconst 4, 1) := by decide +kernel
theorem dX11_init_437 : decode cX11_init 437 = .ok (.newarray .int, 2) := by decide +kernel
theorem dX11_init_439 : decode cX11_init 439 = .ok (.putfield 168, 3) := by decide +kernel
theorem dX11_init_442 : decode cX11_init 442 = .ok (.aload_n 0, 1) := by decide +kernel
theorem dX11_init_443 : decode cX11_init 443 = .ok (.sipush 668, 3) := by decide +kernel
theorem dX11_init_446 : decode cX11_init 446 = .ok (.newarray .int, 2) := by decide +kernel
theorem dX11_init_448 : decode cX11_init 448 = .ok (.putfield 171, 3) := by decide +kernel
theorem dX11_init_451 : decode cX11_init 451 = .ok (.return_, 1) := by decide +kernel
theorem dX11_in_0 : decode cX11_in 0 = .ok (.iload_n 0, 1) := by decide +kernel
theorem dX11_in_1 : decode cX11_in 1 = .ok (.iload_n 1, 1) := by decide +kernel
theorem dX11_in_2 : decode cX11_in 2 = .ok (.if_icmp .lt 12, 3) := by decide +kernel
theorem dX11_in_5 : decode cX11_in 5 = .ok (.iload_n 0, 1) := by decide +kernel
theorem dX11_in_6 : decode cX11_in 6 = .ok (.iload_n 2, 1) := by decide +kernel
theorem dX11_in_7 : decode cX11_in 7 = .ok (.if_icmp .gt 7, 3) := by decide +kernel
theorem dX11_in_10 : decode cX11_in 10 = .ok (.iconst 1, 1) := by decide +kernel
theorem dX11_in_11 : decode cX11_in 11 = .ok (.goto 4, 3) := by decide +kernel
theorem dX11_in_14 : decode cX11_in 14 = .ok (.iconst 0, 1) := by decide +kernel
theorem dX11_in_15 : decode cX11_in 15 = .ok (.ireturn, 1) := by decide +kernel
theorem dX11_today_0 : decode cX11_today 0 = .ok (.aload_n 0, 1) := by decide +kernel
theorem dX11_today_1 : decode cX11_today 1 = .ok (.getfield 178, 3) := by decide +kernel
theorem dX11_today_4 : decode cX11_today 4 = .ok (.sipush 600, 3) := by decide +kernel
theorem dX11_today_7 : decode cX11_today 7 = .ok (.idiv, 1) := by decide +kernel
theorem dX11_today_8 : decode cX11_today 8 = .ok (.ireturn, 1) := by decide +kernel
theorem dX11_isPlace_0 : decode cX11_isPlace 0 = .ok (.iload_n 1, 1) := by decide +kernel
theorem dX11_isPlace_1 : decode cX11_isPlace 1 = .ok (.iconst 0, 1) := by decide +kernel
theorem dX11_isPlace_2 : decode cX11_isPlace 2 = .ok (.aload_n 0, 1) := by decide +kernel
theorem dX11_isPlace_3 : decode cX11_isPlace 3 = .ok (.getfield 181, 3) := by decide +kernel
theorem dX11_isPlace_6 : decode cX11_isPlace 6 = .ok (.iconst 1, 1) := by decide +kernel
theorem dX11_isPlace_7 : decode cX11_isPlace 7 = .ok (.isub, 1) := by decide +kernel
theorem dX11_isPlace_8 : decode cX11_isPlace 8 = .ok (.invokestatic 184, 3) := by decide +kernel
theorem dX11_isPlace_11 : decode cX11_isPlace 11 = .ok (.ireturn, 1) := by decide +kernel
theorem dX11_rainsAt_0 : decode cX11_rainsAt 0 = .ok (.iconst 0, 1) := by decide +kernel
theorem dX11_rainsAt_1 : decode cX11_rainsAt 1 = .ok (.istore_n 2, 1) := by decide +kernel
theorem dX11_rainsAt_2 : decode cX11_rainsAt 2 = .ok (.iload_n 2, 1) := by decide +kernel
theorem dX11_rainsAt_3 : decode cX11_rainsAt 3 = .ok (.aload_n 0, 1) := by decide +kernel
theorem dX11_rainsAt_4 : decode cX11_rainsAt 4 = .ok (.getfield 188, 3) := by decide +kernel
theorem dX11_rainsAt_7 : decode cX11_rainsAt 7 = .ok (.if_icmp .ge 31, 3) := by decide +kernel
theorem dX11_rainsAt_10 : decode cX11_rainsAt 10 = .ok (.iload_n 1, 1) := by decide +kernel
theorem dX11_rainsAt_11 : decode cX11_rainsAt 11 = .ok (.aload_n 0, 1) := by decide +kernel
theorem dX11_rainsAt_12 : decode cX11_rainsAt 12 = .ok (.getfield 7, 3) := by decide +kernel
theorem dX11_rainsAt_15 : decode cX11_rainsAt 15 = .ok (.iload_n 2, 1) := by decide +kernel
theorem dX11_rainsAt_16 : decode cX11_rainsAt 16 = .ok (.iaload, 1) := by decide +kernel
theorem dX11_rainsAt_17 : decode cX11_rainsAt 17 = .ok (.if_icmp .lt 15, 3) := by decide +kernel
theorem dX11_rainsAt_20 : decode cX11_rainsAt 20 = .ok (.iload_n 1, 1) := by decide +kernel
theorem dX11_rainsAt_21 : decode cX11_rainsAt 21 = .ok (.aload_n 0, 1) := by decide +kernel
theorem dX11_rainsAt_22 : decode cX11_rainsAt 22 = .ok (.getfield 13, 3) := by decide +kernel
theorem dX11_rainsAt_25 : decode cX11_rainsAt 25 = .ok (.iload_n 2, 1) := by decide +kernel
theorem dX11_rainsAt_26 : decode cX11_rainsAt 26 = .ok (.iaload, 1) := by decide +kernel
theorem dX11_rainsAt_27 : decode cX11_rainsAt 27 = .ok (.if_icmp .ge 5, 3) := by decide +kernel
theorem dX11_rainsAt_30 : decode cX11_rainsAt 30 = .ok (.iconst 1, 1) := by decide +kernel
theorem dX11_rainsAt_31 : decode cX11_rainsAt 31 = .ok (.ireturn, 1) := by decide +kernel
theorem dX11_rainsAt_32 : decode cX11_rainsAt 32 = .ok (.iinc 2 1, 3) := by decide +kernel
theorem dX11_rainsAt_35 : decode cX11_rainsAt 35 = .ok (.goto (-33), 3) := by decide +kernel
theorem dX11_rainsAt_38 : decode cX11_rainsAt 38 = .ok (.iconst 0, 1) := by decide +kernel
theorem dX11_rainsAt_39 : decode cX11_rainsAt 39 = .ok (.ireturn, 1) := by decide +kernel
theorem dX11_place_0 : decode cX11_place 0 = .ok (.iload_n 1, 1) := by decide +kernel
theorem dX11_place_1 : decode cX11_place 1 = .ok (.iconst 0, 1) := by decide +kernel
theorem dX11_place_2 : decode cX11_place 2 = .ok (.bipush 99, 2) := by decide +kernel
theorem dX11_place_4 : decode cX11_place 4 = .ok (.invokestatic 184, 3) := by decide +kernel
theorem dX11_place_7 : decode cX11_place 7 = .ok (.ifCond .eq 13, 3) := by decide +kernel
theorem dX11_place_10 : decode cX11_place 10 = .ok (.iload_n 2, 1) := by decide +kernel
theorem dX11_place_11 : decode cX11_place 11 = .ok (.iconst 0, 1) := by decide +kernel
theorem dX11_place_12 : decode cX11_place 12 = .ok (.bipush 99, 2) := by decide +kernel
theorem dX11_place_14 : decode cX11_place 14 = .ok (.invokestatic 184, 3) := by decide +kernel
theorem dX11_place_17 : decode cX11_place 17 = .ok (.ifCond .ne 5, 3) := by decide +kernel
theorem dX11_place_20 : decode cX11_place 20 = .ok (.iconst (-1), 1) := by decide +kernel
theorem dX11_place_21 : decode cX11_place 21 = .ok (.ireturn, 1) := by decide +kernel
theorem dX11_place_22 : decode cX11_place 22 = .ok (.aload_n 0, 1) := by decide +kernel
theorem dX11_place_23 : decode cX11_place 23 = .ok (.getfield 181, 3) := by decide +kernel
theorem dX11_place_26 : decode cX11_place 26 = .ok (.bipush 20, 2) := by decide +kernel
theorem dX11_place_28 : decode cX11_place 28 = .ok (.if_icmp .ne 6, 3) := by decide +kernel
theorem dX11_place_31 : decode cX11_place 31 = .ok (.bipush (-3), 2) := by decide +kernel
theorem dX11_place_33 : decode cX11_place 33 = .ok (.ireturn, 1) := by decide +kernel
theorem dX11_place_34 : decode cX11_place 34 = .ok (.aload_n 0, 1) := by decide +kernel
theorem dX11_place_35 : decode cX11_place 35 = .ok (.getfield 16, 3) := by decide +kernel
theorem dX11_place_38 : decode cX11_place 38 = .ok (.aload_n 0, 1) := by decide +kernel
theorem dX11_place_39 : decode cX11_place 39 = .ok (.getfield 181, 3) := by decide +kernel
theorem dX11_place_42 : decode cX11_place 42 = .ok (.iload_n 1, 1) := by decide +kernel
theorem dX11_place_43 : decode cX11_place 43 = .ok (.iastore, 1) := by decide +kernel
theorem dX11_place_44 : decode cX11_place 44 = .ok (.aload_n 0, 1) := by decide +kernel
theorem dX11_place_45 : decode cX11_place 45 = .ok (.getfield 19, 3) := by decide +kernel
theorem dX11_place_48 : decode cX11_place 48 = .ok (.aload_n 0, 1) := by decide +kernel
theorem dX11_place_49 : decode cX11_place 49 = .ok (.getfield 181, 3) := by decide +kernel
theorem dX11_place_52 : decode cX11_place 52 = .ok (.iload_n 2, 1) := by decide +kernel
theorem dX11_place_53 : decode cX11_place 53 = .ok (.iastore, 1) := by decide +kernel
theorem dX11_place_54 : decode cX11_place 54 = .ok (.aload_n 0, 1) := by decide +kernel
theorem dX11_place_55 : decode cX11_place 55 = .ok (.dup, 1) := by decide +kernel
theorem dX11_place_56 : decode cX11_place 56 = .ok (.getfield 181, 3) := by decide +kernel
theorem dX11_place_59 : decode cX11_place 59 = .ok (.iconst 1, 1) := by decide +kernel
theorem dX11_place_60 : decode cX11_place 60 = .ok (.iadd, 1) := by decide +kernel
theorem dX11_place_61 : decode cX11_place 61 = .ok (.putfield 181, 3) := by decide +kernel
theorem dX11_place_64 : decode cX11_place 64 = .ok (.aload_n 0, 1) := by decide +kernel
theorem dX11_place_65 : decode cX11_place 65 = .ok (.getfield 181, 3) := by decide +kernel
theorem dX11_place_68 : decode cX11_place 68 = .ok (.iconst 1, 1) := by decide +kernel
theorem dX11_place_69 : decode cX11_place 69 = .ok (.isub, 1) := by decide +kernel
theorem dX11_place_70 : decode cX11_place 70 = .ok (.ireturn, 1) := by decide +kernel
theorem dX11_tide_0 : decode cX11_tide 0 = .ok (.aload_n 0, 1) := by decide +kernel
theorem dX11_tide_1 : decode cX11_tide 1 = .ok (.iload_n 1, 1) := by decide +kernel
theorem dX11_tide_2 : decode cX11_tide 2 = .ok (.invokevirtual 191, 3) := by decide +kernel
theorem dX11_tide_5 : decode cX11_tide 5 = .ok (.ifCond .eq 19, 3) := by decide +kernel
theorem dX11_tide_8 : decode cX11_tide 8 = .ok (.iload_n 2, 1) := by decide +kernel
theorem dX11_tide_9 : decode cX11_tide 9 = .ok (.ifCond .lt 15, 3) := by decide +kernel
theorem dX11_tide_12 : decode cX11_tide 12 = .ok (.iload_n 3, 1) := by decide +kernel
theorem dX11_tide_13 : decode cX11_tide 13 = .ok (.iload_n 2, 1) := by decide +kernel
theorem dX11_tide_14 : decode cX11_tide 14 = .ok (.if_icmp .lt 10, 3) := by decide +kernel
theorem dX11_tide_17 : decode cX11_tide 17 = .ok (.iload_n 3, 1) := by decide +kernel
theorem dX11_tide_18 : decode cX11_tide 18 = .ok (.sipush 600, 3) := by decide +kernel
theorem dX11_tide_21 : decode cX11_tide 21 = .ok (.if_icmp .le 5, 3) := by decide +kernel
theorem dX11_tide_24 : decode cX11_tide 24 = .ok (.iconst (-1), 1) := by decide +kernel
theorem dX11_tide_25 : decode cX11_tide 25 = .ok (.ireturn, 1) := by decide +kernel
theorem dX11_tide_26 : decode cX11_tide 26 = .ok (.aload_n 0, 1) := by decide +kernel
theorem dX11_tide_27 : decode cX11_tide 27 = .ok (.getfield 22, 3) := by decide +kernel
theorem dX11_tide_30 : decode cX11_tide 30 = .ok (.iload_n 1, 1) := by decide +kernel
theorem dX11_tide_31 : decode cX11_tide 31 = .ok (.iload_n 2, 1) := by decide +kernel
theorem dX11_tide_32 : decode cX11_tide 32 = .ok (.iastore, 1) := by decide +kernel
theorem dX11_tide_33 : decode cX11_tide 33 = .ok (.aload_n 0, 1) := by decide +kernel
theorem dX11_tide_34 : decode cX11_tide 34 = .ok (.getfield 25, 3) := by decide +kernel
theorem dX11_tide_37 : decode cX11_tide 37 = .ok (.iload_n 1, 1) := by decide +kernel
theorem dX11_tide_38 : decode cX11_tide 38 = .ok (.iload_n 3, 1) := by decide +kernel
theorem dX11_tide_39 : decode cX11_tide 39 = .ok (.iastore, 1) := by decide +kernel
theorem dX11_tide_40 : decode cX11_tide 40 = .ok (.iconst 1, 1) := by decide +kernel
theorem dX11_tide_41 : decode cX11_tide 41 = .ok (.ireturn, 1) := by decide +kernel
theorem dX11_rain_0 : decode cX11_rain 0 = .ok (.iload_n 1, 1) := by decide +kernel
theorem dX11_rain_1 : decode cX11_rain 1 = .ok (.aload_n 0, 1) := by decide +kernel
theorem dX11_rain_2 : decode cX11_rain 2 = .ok (.getfield 178, 3) := by decide +kernel
theorem dX11_rain_5 : decode cX11_rain 5 = .ok (.ldc 195, 2) := by decide +kernel
theorem dX11_rain_7 : decode cX11_rain 7 = .ok (.invokestatic 184, 3) := by decide +kernel
theorem dX11_rain_10 : decode cX11_rain 10 = .ok (.ifCond .eq 14, 3) := by decide +kernel
theorem dX11_rain_13 : decode cX11_rain 13 = .ok (.iload_n 2, 1) := by decide +kernel
theorem dX11_rain_14 : decode cX11_rain 14 = .ok (.iload_n 1, 1) := by decide +kernel
theorem dX11_rain_15 : decode cX11_rain 15 = .ok (.if_icmp .le 9, 3) := by decide +kernel
theorem dX11_rain_18 : decode cX11_rain 18 = .ok (.iload_n 2, 1) := by decide +kernel
theorem dX11_rain_19 : decode cX11_rain 19 = .ok (.ldc 196, 2) := by decide +kernel
theorem dX11_rain_21 : decode cX11_rain 21 = .ok (.if_icmp .le 5, 3) := by decide +kernel
theorem dX11_rain_24 : decode cX11_rain 24 = .ok (.iconst (-1), 1) := by decide +kernel
theorem dX11_rain_25 : decode cX11_rain 25 = .ok (.ireturn, 1) := by decide +kernel
theorem dX11_rain_26 : decode cX11_rain 26 = .ok (.aload_n 0, 1) := by decide +kernel
theorem dX11_rain_27 : decode cX11_rain 27 = .ok (.getfield 188, 3) := by decide +kernel
theorem dX11_rain_30 : decode cX11_rain 30 = .ok (.bipush 20, 2) := by decide +kernel
theorem dX11_rain_32 : decode cX11_rain 32 = .ok (.if_icmp .ne 6, 3) := by decide +kernel
theorem dX11_rain_35 : decode cX11_rain 35 = .ok (.bipush (-3), 2) := by decide +kernel
theorem dX11_rain_37 : decode cX11_rain 37 = .ok (.ireturn, 1) := by decide +kernel
theorem dX11_rain_38 : decode cX11_rain 38 = .ok (.aload_n 0, 1) := by decide +kernel
theorem dX11_rain_39 : decode cX11_rain 39 = .ok (.getfield 7, 3) := by decide +kernel
theorem dX11_rain_42 : decode cX11_rain 42 = .ok (.aload_n 0, 1) := by decide +kernel
theorem dX11_rain_43 : decode cX11_rain 43 = .ok (.getfield 188, 3) := by decide +kernel
theorem dX11_rain_46 : decode cX11_rain 46 = .ok (.iload_n 1, 1) := by decide +kernel
theorem dX11_rain_47 : decode cX11_rain 47 = .ok (.iastore, 1) := by decide +kernel
theorem dX11_rain_48 : decode cX11_rain 48 = .ok (.aload_n 0, 1) := by decide +kernel
theorem dX11_rain_49 : decode cX11_rain 49 = .ok (.getfield 13, 3) := by decide +kernel
theorem dX11_rain_52 : decode cX11_rain 52 = .ok (.aload_n 0, 1) := by decide +kernel
theorem dX11_rain_53 : decode cX11_rain 53 = .ok (.getfield 188, 3) := by decide +kernel
theorem dX11_rain_56 : decode cX11_rain 56 = .ok (.iload_n 2, 1) := by decide +kernel
theorem dX11_rain_57 : decode cX11_rain 57 = .ok (.iastore, 1) := by decide +kernel
theorem dX11_rain_58 : decode cX11_rain 58 = .ok (.aload_n 0, 1) := by decide +kernel
theorem dX11_rain_59 : decode cX11_rain 59 = .ok (.dup, 1) := by decide +kernel
theorem dX11_rain_60 : decode cX11_rain 60 = .ok (.getfield 188, 3) := by decide +kernel
theorem dX11_rain_63 : decode cX11_rain 63 = .ok (.iconst 1, 1) := by decide +kernel
theorem dX11_rain_64 : decode cX11_rain 64 = .ok (.iadd, 1) := by decide +kernel
theorem dX11_rain_65 : decode cX11_rain 65 = .ok (.putfield 188, 3) := by decide +kernel
theorem dX11_rain_68 : decode cX11_rain 68 = .ok (.aload_n 0, 1) := by decide +kernel
theorem dX11_rain_69 : decode cX11_rain 69 = .ok (.getfield 188, 3) := by decide +kernel
theorem dX11_rain_72 : decode cX11_rain 72 = .ok (.ireturn, 1) := by decide +kernel
theorem dX11_far_0 : decode cX11_far 0 = .ok (.aload_n 0, 1) := by decide +kernel
theorem dX11_far_1 : decode cX11_far 1 = .ok (.getfield 16, 3) := by decide +kernel
theorem dX11_far_4 : decode cX11_far 4 = .ok (.iload_n 1, 1) := by decide +kernel
theorem dX11_far_5 : decode cX11_far 5 = .ok (.iaload, 1) := by decide +kernel
theorem dX11_far_6 : decode cX11_far 6 = .ok (.aload_n 0, 1) := by decide +kernel
theorem dX11_far_7 : decode cX11_far 7 = .ok (.getfield 16, 3) := by decide +kernel
theorem dX11_far_10 : decode cX11_far 10 = .ok (.iload_n 2, 1) := by decide +kernel
theorem dX11_far_11 : decode cX11_far 11 = .ok (.iaload, 1) := by decide +kernel
theorem dX11_far_12 : decode cX11_far 12 = .ok (.if_icmp .ge 19, 3) := by decide +kernel
theorem dX11_far_15 : decode cX11_far 15 = .ok (.aload_n 0, 1) := by decide +kernel
theorem dX11_far_16 : decode cX11_far 16 = .ok (.getfield 16, 3) := by decide +kernel
theorem dX11_far_19 : decode cX11_far 19 = .ok (.iload_n 2, 1) := by decide +kernel
theorem dX11_far_20 : decode cX11_far 20 = .ok (.iaload, 1) := by decide +kernel
theorem dX11_far_21 : decode cX11_far 21 = .ok (.aload_n 0, 1) := by decide +kernel
theorem dX11_far_22 : decode cX11_far 22 = .ok (.getfield 16, 3) := by decide +kernel
theorem dX11_far_25 : decode cX11_far 25 = .ok (.iload_n 1, 1) := by decide +kernel
theorem dX11_far_26 : decode cX11_far 26 = .ok (.iaload, 1) := by decide +kernel
theorem dX11_far_27 : decode cX11_far 27 = .ok (.isub, 1) := by decide +kernel
theorem dX11_far_28 : decode cX11_far 28 = .ok (.goto 16, 3) := by decide +kernel
theorem dX11_far_31 : decode cX11_far 31 = .ok (.aload_n 0, 1) := by decide +kernel
theorem dX11_far_32 : decode cX11_far 32 = .ok (.getfield 16, 3) := by decide +kernel
theorem dX11_far_35 : decode cX11_far 35 = .ok (.iload_n 1, 1) := by decide +kernel
theorem dX11_far_36 : decode cX11_far 36 = .ok (.iaload, 1) := by decide +kernel
theorem dX11_far_37 : decode cX11_far 37 = .ok (.aload_n 0, 1) := by decide +kernel
theorem dX11_far_38 : decode cX11_far 38 = .ok (.getfield 16, 3) := by decide +kernel
theorem dX11_far_41 : decode cX11_far 41 = .ok (.iload_n 2, 1) := by decide +kernel
theorem dX11_far_42 : decode cX11_far 42 = .ok (.iaload, 1) := by decide +kernel
theorem dX11_far_43 : decode cX11_far 43 = .ok (.isub, 1) := by decide +kernel
theorem dX11_far_44 : decode cX11_far 44 = .ok (.ireturn, 1) := by decide +kernel
theorem dX11_up_0 : decode cX11_up 0 = .ok (.aload_n 0, 1) := by decide +kernel
theorem dX11_up_1 : decode cX11_up 1 = .ok (.getfield 19, 3) := by decide +kernel
theorem dX11_up_4 : decode cX11_up 4 = .ok (.iload_n 2, 1) := by decide +kernel
theorem dX11_up_5 : decode cX11_up 5 = .ok (.iaload, 1) := by decide +kernel
theorem dX11_up_6 : decode cX11_up 6 = .ok (.aload_n 0, 1) := by decide +kernel
theorem dX11_up_7 : decode cX11_up 7 = .ok (.getfield 19, 3) := by decide +kernel
theorem dX11_up_10 : decode cX11_up 10 = .ok (.iload_n 1, 1) := by decide +kernel
theorem dX11_up_11 : decode cX11_up 11 = .ok (.iaload, 1) := by decide +kernel
theorem dX11_up_12 : decode cX11_up 12 = .ok (.if_icmp .lt 19, 3) := by decide +kernel
theorem dX11_up_15 : decode cX11_up 15 = .ok (.aload_n 0, 1) := by decide +kernel
theorem dX11_up_16 : decode cX11_up 16 = .ok (.getfield 19, 3) := by decide +kernel
theorem dX11_up_19 : decode cX11_up 19 = .ok (.iload_n 2, 1) := by decide +kernel
theorem dX11_up_20 : decode cX11_up 20 = .ok (.iaload, 1) := by decide +kernel
theorem dX11_up_21 : decode cX11_up 21 = .ok (.aload_n 0, 1) := by decide +kernel
theorem dX11_up_22 : decode cX11_up 22 = .ok (.getfield 19, 3) := by decide +kernel
theorem dX11_up_25 : decode cX11_up 25 = .ok (.iload_n 1, 1) := by decide +kernel
theorem dX11_up_26 : decode cX11_up 26 = .ok (.iaload, 1) := by decide +kernel
theorem dX11_up_27 : decode cX11_up 27 = .ok (.isub, 1) := by decide +kernel
theorem dX11_up_28 : decode cX11_up 28 = .ok (.goto 18, 3) := by decide +kernel
theorem dX11_up_31 : decode cX11_up 31 = .ok (.aload_n 0, 1) := by decide +kernel
theorem dX11_up_32 : decode cX11_up 32 = .ok (.getfield 19, 3) := by decide +kernel
theorem dX11_up_35 : decode cX11_up 35 = .ok (.iload_n 1, 1) := by decide +kernel
theorem dX11_up_36 : decode cX11_up 36 = .ok (.iaload, 1) := by decide +kernel
theorem dX11_up_37 : decode cX11_up 37 = .ok (.aload_n 0, 1) := by decide +kernel
theorem dX11_up_38 : decode cX11_up 38 = .ok (.getfield 19, 3) := by decide +kernel
theorem dX11_up_41 : decode cX11_up 41 = .ok (.iload_n 2, 1) := by decide +kernel
theorem dX11_up_42 : decode cX11_up 42 = .ok (.iaload, 1) := by decide +kernel
theorem dX11_up_43 : decode cX11_up 43 = .ok (.isub, 1) := by decide +kernel
theorem dX11_up_44 : decode cX11_up 44 = .ok (.iconst 2, 1) := by decide +kernel
theorem dX11_up_45 : decode cX11_up 45 = .ok (.idiv, 1) := by decide +kernel
theorem dX11_up_46 : decode cX11_up 46 = .ok (.ireturn, 1) := by decide +kernel
theorem dX11_wayNow_0 : decode cX11_wayNow 0 = .ok (.aload_n 0, 1) := by decide +kernel
theorem dX11_wayNow_1 : decode cX11_wayNow 1 = .ok (.iload_n 1, 1) := by decide +kernel
theorem dX11_wayNow_2 : decode cX11_wayNow 2 = .ok (.iload_n 2, 1) := by decide +kernel
theorem dX11_wayNow_3 : decode cX11_wayNow 3 = .ok (.invokevirtual 197, 3) := by decide +kernel
theorem dX11_wayNow_6 : decode cX11_wayNow 6 = .ok (.iconst 2, 1) := by decide +kernel
theorem dX11_wayNow_7 : decode cX11_wayNow 7 = .ok (.aload_n 0, 1) := by decide +kernel
theorem dX11_wayNow_8 : decode cX11_wayNow 8 = .ok (.iload_n 1, 1) := by decide +kernel
theorem dX11_wayNow_9 : decode cX11_wayNow 9 = .ok (.iload_n 2, 1) := by decide +kernel
theorem dX11_wayNow_10 : decode cX11_wayNow 10 = .ok (.invokevirtual 201, 3) := by decide +kernel
theorem dX11_wayNow_13 : decode cX11_wayNow 13 = .ok (.imul, 1) := by decide +kernel
theorem dX11_wayNow_14 : decode cX11_wayNow 14 = .ok (.iadd, 1) := by decide +kernel
theorem dX11_wayNow_15 : decode cX11_wayNow 15 = .ok (.iconst 5, 1) := by decide +kernel
theorem dX11_wayNow_16 : decode cX11_wayNow 16 = .ok (.iadd, 1) := by decide +kernel
theorem dX11_wayNow_17 : decode cX11_wayNow 17 = .ok (.istore_n 3, 1) := by decide +kernel
theorem dX11_wayNow_18 : decode cX11_wayNow 18 = .ok (.aload_n 0, 1) := by decide +kernel
theorem dX11_wayNow_19 : decode cX11_wayNow 19 = .ok (.aload_n 0, 1) := by decide +kernel
theorem dX11_wayNow_20 : decode cX11_wayNow 20 = .ok (.getfield 178, 3) := by decide +kernel
theorem dX11_wayNow_23 : decode cX11_wayNow 23 = .ok (.invokevirtual 204, 3) := by decide +kernel
theorem dX11_wayNow_26 : decode cX11_wayNow 26 = .ok (.ifCond .eq 11, 3) := by decide +kernel
theorem dX11_wayNow_29 : decode cX11_wayNow 29 = .ok (.iload_n 3, 1) := by decide +kernel
theorem dX11_wayNow_30 : decode cX11_wayNow 30 = .ok (.iload_n 3, 1) := by decide +kernel
theorem dX11_wayNow_31 : decode cX11_wayNow 31 = .ok (.iconst 2, 1) := by decide +kernel
theorem dX11_wayNow_32 : decode cX11_wayNow 32 = .ok (.idiv, 1) := by decide +kernel
theorem dX11_wayNow_33 : decode cX11_wayNow 33 = .ok (.iadd, 1) := by decide +kernel
theorem dX11_wayNow_34 : decode cX11_wayNow 34 = .ok (.goto 4, 3) := by decide +kernel
theorem dX11_wayNow_37 : decode cX11_wayNow 37 = .ok (.iload_n 3, 1) := by decide +kernel
theorem dX11_wayNow_38 : decode cX11_wayNow 38 = .ok (.ireturn, 1) := by decide +kernel
theorem dX11_way_0 : decode cX11_way 0 = .ok (.aload_n 0, 1) := by decide +kernel
theorem dX11_way_1 : decode cX11_way 1 = .ok (.iload_n 1, 1) := by decide +kernel
theorem dX11_way_2 : decode cX11_way 2 = .ok (.invokevirtual 191, 3) := by decide +kernel
theorem dX11_way_5 : decode cX11_way 5 = .ok (.ifCond .eq 16, 3) := by decide +kernel
theorem dX11_way_8 : decode cX11_way 8 = .ok (.aload_n 0, 1) := by decide +kernel
theorem dX11_way_9 : decode cX11_way 9 = .ok (.iload_n 2, 1) := by decide +kernel
theorem dX11_way_10 : decode cX11_way 10 = .ok (.invokevirtual 191, 3) := by decide +kernel
theorem dX11_way_13 : decode cX11_way 13 = .ok (.ifCond .eq 8, 3) := by decide +kernel
theorem dX11_way_16 : decode cX11_way 16 = .ok (.iload_n 1, 1) := by decide +kernel
theorem dX11_way_17 : decode cX11_way 17 = .ok (.iload_n 2, 1) := by decide +kernel
theorem dX11_way_18 : decode cX11_way 18 = .ok (.if_icmp .ne 5, 3) := by decide +kernel
theorem dX11_way_21 : decode cX11_way 21 = .ok (.iconst (-1), 1) := by decide +kernel
theorem dX11_way_22 : decode cX11_way 22 = .ok (.ireturn, 1) := by decide +kernel
theorem dX11_way_23 : decode cX11_way 23 = .ok (.iload_n 3, 1) := by decide +kernel
theorem dX11_way_24 : decode cX11_way 24 = .ok (.tableswitch 49 0 2 #[28, 35, 42], 28) := by decide +kernel
theorem dX11_way_52 : decode cX11_way 52 = .ok (.aload_n 0, 1) := by decide +kernel
theorem dX11_way_53 : decode cX11_way 53 = .ok (.iload_n 1, 1) := by decide +kernel
theorem dX11_way_54 : decode cX11_way 54 = .ok (.iload_n 2, 1) := by decide +kernel
theorem dX11_way_55 : decode cX11_way 55 = .ok (.invokevirtual 197, 3) := by decide +kernel
theorem dX11_way_58 : decode cX11_way 58 = .ok (.ireturn, 1) := by decide +kernel
theorem dX11_way_59 : decode cX11_way 59 = .ok (.aload_n 0, 1) := by decide +kernel
theorem dX11_way_60 : decode cX11_way 60 = .ok (.iload_n 1, 1) := by decide +kernel
theorem dX11_way_61 : decode cX11_way 61 = .ok (.iload_n 2, 1) := by decide +kernel
theorem dX11_way_62 : decode cX11_way 62 = .ok (.invokevirtual 201, 3) := by decide +kernel
theorem dX11_way_65 : decode cX11_way 65 = .ok (.ireturn, 1) := by decide +kernel
theorem dX11_way_66 : decode cX11_way 66 = .ok (.aload_n 0, 1) := by decide +kernel
theorem dX11_way_67 : decode cX11_way 67 = .ok (.iload_n 1, 1) := by decide +kernel
theorem dX11_way_68 : decode cX11_way 68 = .ok (.iload_n 2, 1) := by decide +kernel
theorem dX11_way_69 : decode cX11_way 69 = .ok (.invokevirtual 207, 3) := by decide +kernel
theorem dX11_way_72 : decode cX11_way 72 = .ok (.ireturn, 1) := by decide +kernel
theorem dX11_way_73 : decode cX11_way 73 = .ok (.iconst (-1), 1) := by decide +kernel
theorem dX11_way_74 : decode cX11_way 74 = .ok (.ireturn, 1) := by decide +kernel
theorem dX11_isMan_0 : decode cX11_isMan 0 = .ok (.iload_n 1, 1) := by decide +kernel
theorem dX11_isMan_1 : decode cX11_isMan 1 = .ok (.iconst 0, 1) := by decide +kernel
theorem dX11_isMan_2 : decode cX11_isMan 2 = .ok (.aload_n 0, 1) := by decide +kernel
theorem dX11_isMan_3 : decode cX11_isMan 3 = .ok (.getfield 210, 3) := by decide +kernel
theorem dX11_isMan_6 : decode cX11_isMan 6 = .ok (.iconst 1, 1) := by decide +kernel
theorem dX11_isMan_7 : decode cX11_isMan 7 = .ok (.isub, 1) := by decide +kernel
theorem dX11_isMan_8 : decode cX11_isMan 8 = .ok (.invokestatic 184, 3) := by decide +kernel
theorem dX11_isMan_11 : decode cX11_isMan 11 = .ok (.ireturn, 1) := by decide +kernel
theorem dX11_isFellowship_0 : decode cX11_isFellowship 0 = .ok (.iload_n 0, 1) := by decide +kernel
theorem dX11_isFellowship_1 : decode cX11_isFellowship 1 = .ok (.iconst 0, 1) := by decide +kernel
theorem dX11_isFellowship_2 : decode cX11_isFellowship 2 = .ok (.iconst 3, 1) := by decide +kernel
theorem dX11_isFellowship_3 : decode cX11_isFellowship 3 = .ok (.invokestatic 184, 3) := by decide +kernel
theorem dX11_isFellowship_6 : decode cX11_isFellowship 6 = .ok (.ireturn, 1) := by decide +kernel
theorem dX11_man_0 : decode cX11_man 0 = .ok (.iload_n 1, 1) := by decide +kernel
theorem dX11_man_1 : decode cX11_man 1 = .ok (.invokestatic 213, 3) := by decide +kernel
theorem dX11_man_4 : decode cX11_man 4 = .ok (.ifCond .eq 33, 3) := by decide +kernel
theorem dX11_man_7 : decode cX11_man 7 = .ok (.iload_n 2, 1) := by decide +kernel
theorem dX11_man_8 : decode cX11_man 8 = .ok (.iconst 1, 1) := by decide +kernel
theorem dX11_man_9 : decode cX11_man 9 = .ok (.bipush 99, 2) := by decide +kernel
theorem dX11_man_11 : decode cX11_man 11 = .ok (.invokestatic 184, 3) := by decide +kernel
theorem dX11_man_14 : decode cX11_man 14 = .ok (.ifCond .eq 23, 3) := by decide +kernel
theorem dX11_man_17 : decode cX11_man 17 = .ok (.iload_n 3, 1) := by decide +kernel
theorem dX11_man_18 : decode cX11_man 18 = .ok (.bipush 16, 2) := by decide +kernel
theorem dX11_man_20 : decode cX11_man 20 = .ok (.bipush 90, 2) := by decide +kernel
theorem dX11_man_22 : decode cX11_man 22 = .ok (.invokestatic 184, 3) := by decide +kernel
theorem dX11_man_25 : decode cX11_man 25 = .ok (.ifCond .eq 12, 3) := by decide +kernel
theorem dX11_man_28 : decode cX11_man 28 = .ok (.aload_n 0, 1) := by decide +kernel
theorem dX11_man_29 : decode cX11_man 29 = .ok (.iload 4, 2) := by decide +kernel
theorem dX11_man_31 : decode cX11_man 31 = .ok (.invokevirtual 191, 3) := by decide +kernel
theorem dX11_man_34 : decode cX11_man 34 = .ok (.ifCond .ne 5, 3) := by decide +kernel
theorem dX11_man_37 : decode cX11_man 37 = .ok (.iconst (-1), 1) := by decide +kernel
theorem dX11_man_38 : decode cX11_man 38 = .ok (.ireturn, 1) := by decide +kernel
theorem dX11_man_39 : decode cX11_man 39 = .ok (.aload_n 0, 1) := by decide +kernel
theorem dX11_man_40 : decode cX11_man 40 = .ok (.getfield 210, 3) := by decide +kernel
theorem dX11_man_43 : decode cX11_man 43 = .ok (.bipush 60, 2) := by decide +kernel
theorem dX11_man_45 : decode cX11_man 45 = .ok (.if_icmp .ne 6, 3) := by decide +kernel
theorem dX11_man_48 : decode cX11_man 48 = .ok (.bipush (-3), 2) := by decide +kernel
theorem dX11_man_50 : decode cX11_man 50 = .ok (.ireturn, 1) := by decide +kernel
theorem dX11_man_51 : decode cX11_man 51 = .ok (.aload_n 0, 1) := by decide +kernel
theorem dX11_man_52 : decode cX11_man 52 = .ok (.getfield 28, 3) := by decide +kernel
theorem dX11_man_55 : decode cX11_man 55 = .ok (.aload_n 0, 1) := by decide +kernel
theorem dX11_man_56 : decode cX11_man 56 = .ok (.getfield 210, 3) := by decide +kernel
theorem dX11_man_59 : decode cX11_man 59 = .ok (.iload_n 1, 1) := by decide +kernel
theorem dX11_man_60 : decode cX11_man 60 = .ok (.iastore, 1) := by decide +kernel
theorem dX11_man_61 : decode cX11_man 61 = .ok (.aload_n 0, 1) := by decide +kernel
theorem dX11_man_62 : decode cX11_man 62 = .ok (.getfield 31, 3) := by decide +kernel
theorem dX11_man_65 : decode cX11_man 65 = .ok (.aload_n 0, 1) := by decide +kernel
theorem dX11_man_66 : decode cX11_man 66 = .ok (.getfield 210, 3) := by decide +kernel
theorem dX11_man_69 : decode cX11_man 69 = .ok (.iload_n 2, 1) := by decide +kernel
theorem dX11_man_70 : decode cX11_man 70 = .ok (.iastore, 1) := by decide +kernel
theorem dX11_man_71 : decode cX11_man 71 = .ok (.aload_n 0, 1) := by decide +kernel
theorem dX11_man_72 : decode cX11_man 72 = .ok (.getfield 34, 3) := by decide +kernel
theorem dX11_man_75 : decode cX11_man 75 = .ok (.aload_n 0, 1) := by decide +kernel
theorem dX11_man_76 : decode cX11_man 76 = .ok (.getfield 210, 3) := by decide +kernel
theorem dX11_man_79 : decode cX11_man 79 = .ok (.iload_n 3, 1) := by decide +kernel
theorem dX11_man_80 : decode cX11_man 80 = .ok (.iastore, 1) := by decide +kernel
theorem dX11_man_81 : decode cX11_man 81 = .ok (.aload_n 0, 1) := by decide +kernel
theorem dX11_man_82 : decode cX11_man 82 = .ok (.getfield 49, 3) := by decide +kernel
theorem dX11_man_85 : decode cX11_man 85 = .ok (.aload_n 0, 1) := by decide +kernel
theorem dX11_man_86 : decode cX11_man 86 = .ok (.getfield 210, 3) := by decide +kernel
theorem dX11_man_89 : decode cX11_man 89 = .ok (.iconst (-1), 1) := by decide +kernel
theorem dX11_man_90 : decode cX11_man 90 = .ok (.iastore, 1) := by decide +kernel
theorem dX11_man_91 : decode cX11_man 91 = .ok (.aload_n 0, 1) := by decide +kernel
theorem dX11_man_92 : decode cX11_man 92 = .ok (.dup, 1) := by decide +kernel
theorem dX11_man_93 : decode cX11_man 93 = .ok (.getfield 210, 3) := by decide +kernel
theorem dX11_man_96 : decode cX11_man 96 = .ok (.iconst 1, 1) := by decide +kernel
theorem dX11_man_97 : decode cX11_man 97 = .ok (.iadd, 1) := by decide +kernel
theorem dX11_man_98 : decode cX11_man 98 = .ok (.putfield 210, 3) := by decide +kernel
theorem dX11_man_101 : decode cX11_man 101 = .ok (.aload_n 0, 1) := by decide +kernel
theorem dX11_man_102 : decode cX11_man 102 = .ok (.getfield 210, 3) := by decide +kernel
theorem dX11_man_105 : decode cX11_man 105 = .ok (.iconst 1, 1) := by decide +kernel
theorem dX11_man_106 : decode cX11_man 106 = .ok (.isub, 1) := by decide +kernel
theorem dX11_man_107 : decode cX11_man 107 = .ok (.ireturn, 1) := by decide +kernel
theorem dX11_placeIn_0 : decode cX11_placeIn 0 = .ok (.aload_n 0, 1) := by decide +kernel
theorem dX11_placeIn_1 : decode cX11_placeIn 1 = .ok (.getfield 28, 3) := by decide +kernel
theorem dX11_placeIn_4 : decode cX11_placeIn 4 = .ok (.iload_n 1, 1) := by decide +kernel
theorem dX11_placeIn_5 : decode cX11_placeIn 5 = .ok (.iaload, 1) := by decide +kernel
theorem dX11_placeIn_6 : decode cX11_placeIn 6 = .ok (.istore_n 2, 1) := by decide +kernel
theorem dX11_placeIn_7 : decode cX11_placeIn 7 = .ok (.iconst 0, 1) := by decide +kernel
theorem dX11_placeIn_8 : decode cX11_placeIn 8 = .ok (.istore_n 3, 1) := by decide +kernel
theorem dX11_placeIn_9 : decode cX11_placeIn 9 = .ok (.iload_n 3, 1) := by decide +kernel
theorem dX11_placeIn_10 : decode cX11_placeIn 10 = .ok (.aload_n 0, 1) := by decide +kernel
theorem dX11_placeIn_11 : decode cX11_placeIn 11 = .ok (.getfield 56, 3) := by decide +kernel
theorem dX11_placeIn_14 : decode cX11_placeIn 14 = .ok (.iload_n 2, 1) := by decide +kernel
theorem dX11_placeIn_15 : decode cX11_placeIn 15 = .ok (.iaload, 1) := by decide +kernel
theorem dX11_placeIn_16 : decode cX11_placeIn 16 = .ok (.if_icmp .ge 26, 3) := by decide +kernel
theorem dX11_placeIn_19 : decode cX11_placeIn 19 = .ok (.aload_n 0, 1) := by decide +kernel
theorem dX11_placeIn_20 : decode cX11_placeIn 20 = .ok (.getfield 59, 3) := by decide +kernel
theorem dX11_placeIn_23 : decode cX11_placeIn 23 = .ok (.bipush 60, 2) := by decide +kernel
theorem dX11_placeIn_25 : decode cX11_placeIn 25 = .ok (.iload_n 2, 1) := by decide +kernel
theorem dX11_placeIn_26 : decode cX11_placeIn 26 = .ok (.imul, 1) := by decide +kernel
theorem dX11_placeIn_27 : decode cX11_placeIn 27 = .ok (.iload_n 3, 1) := by decide +kernel
theorem dX11_placeIn_28 : decode cX11_placeIn 28 = .ok (.iadd, 1) := by decide +kernel
theorem dX11_placeIn_29 : decode cX11_placeIn 29 = .ok (.iaload, 1) := by decide +kernel
theorem dX11_placeIn_30 : decode cX11_placeIn 30 = .ok (.iload_n 1, 1) := by decide +kernel
theorem dX11_placeIn_31 : decode cX11_placeIn 31 = .ok (.if_icmp .ne 5, 3) := by decide +kernel
theorem dX11_placeIn_34 : decode cX11_placeIn 34 = .ok (.iload_n 3, 1) := by decide +kernel
theorem dX11_placeIn_35 : decode cX11_placeIn 35 = .ok (.ireturn, 1) := by decide +kernel
theorem dX11_placeIn_36 : decode cX11_placeIn 36 = .ok (.iinc 3 1, 3) := by decide +kernel
theorem dX11_placeIn_39 : decode cX11_placeIn 39 = .ok (.goto (-30), 3) := by decide +kernel
theorem dX11_placeIn_42 : decode cX11_placeIn 42 = .ok (.iconst (-1), 1) := by decide +kernel
theorem dX11_placeIn_43 : decode cX11_placeIn 43 = .ok (.ireturn, 1) := by decide +kernel
theorem dX11_comesIn_0 : decode cX11_comesIn 0 = .ok (.aload_n 0, 1) := by decide +kernel
theorem dX11_comesIn_1 : decode cX11_comesIn 1 = .ok (.getfield 28, 3) := by decide +kernel
theorem dX11_comesIn_4 : decode cX11_comesIn 4 = .ok (.iload_n 1, 1) := by decide +kernel
theorem dX11_comesIn_5 : decode cX11_comesIn 5 = .ok (.iaload, 1) := by decide +kernel
theorem dX11_comesIn_6 : decode cX11_comesIn 6 = .ok (.istore_n 2, 1) := by decide +kernel
theorem dX11_comesIn_7 : decode cX11_comesIn 7 = .ok (.aload_n 0, 1) := by decide +kernel
theorem dX11_comesIn_8 : decode cX11_comesIn 8 = .ok (.getfield 59, 3) := by decide +kernel
theorem dX11_comesIn_11 : decode cX11_comesIn 11 = .ok (.bipush 60, 2) := by decide +kernel
theorem dX11_comesIn_13 : decode cX11_comesIn 13 = .ok (.iload_n 2, 1) := by decide +kernel
theorem dX11_comesIn_14 : decode cX11_comesIn 14 = .ok (.imul, 1) := by decide +kernel
theorem dX11_comesIn_15 : decode cX11_comesIn 15 = .ok (.aload_n 0, 1) := by decide +kernel
theorem dX11_comesIn_16 : decode cX11_comesIn 16 = .ok (.getfield 56, 3) := by decide +kernel
theorem dX11_comesIn_19 : decode cX11_comesIn 19 = .ok (.iload_n 2, 1) := by decide +kernel
theorem dX11_comesIn_20 : decode cX11_comesIn 20 = .ok (.iaload, 1) := by decide +kernel
theorem dX11_comesIn_21 : decode cX11_comesIn 21 = .ok (.iadd, 1) := by decide +kernel
theorem dX11_comesIn_22 : decode cX11_comesIn 22 = .ok (.iload_n 1, 1) := by decide +kernel
theorem dX11_comesIn_23 : decode cX11_comesIn 23 = .ok (.iastore, 1) := by decide +kernel
theorem dX11_comesIn_24 : decode cX11_comesIn 24 = .ok (.aload_n 0, 1) := by decide +kernel
theorem dX11_comesIn_25 : decode cX11_comesIn 25 = .ok (.getfield 56, 3) := by decide +kernel
theorem dX11_comesIn_28 : decode cX11_comesIn 28 = .ok (.iload_n 2, 1) := by decide +kernel
theorem dX11_comesIn_29 : decode cX11_comesIn 29 = .ok (.dup2, 1) := by decide +kernel
theorem dX11_comesIn_30 : decode cX11_comesIn 30 = .ok (.iaload, 1) := by decide +kernel
theorem dX11_comesIn_31 : decode cX11_comesIn 31 = .ok (.iconst 1, 1) := by decide +kernel
theorem dX11_comesIn_32 : decode cX11_comesIn 32 = .ok (.iadd, 1) := by decide +kernel
theorem dX11_comesIn_33 : decode cX11_comesIn 33 = .ok (.iastore, 1) := by decide +kernel
theorem dX11_comesIn_34 : decode cX11_comesIn 34 = .ok (.return_, 1) := by decide +kernel
theorem dX11_goesOut_0 : decode cX11_goesOut 0 = .ok (.aload_n 0, 1) := by decide +kernel
theorem dX11_goesOut_1 : decode cX11_goesOut 1 = .ok (.getfield 28, 3) := by decide +kernel
theorem dX11_goesOut_4 : decode cX11_goesOut 4 = .ok (.iload_n 1, 1) := by decide +kernel
theorem dX11_goesOut_5 : decode cX11_goesOut 5 = .ok (.iaload, 1) := by decide +kernel
theorem dX11_goesOut_6 : decode cX11_goesOut 6 = .ok (.istore_n 2, 1) := by decide +kernel
theorem dX11_goesOut_7 : decode cX11_goesOut 7 = .ok (.aload_n 0, 1) := by decide +kernel
theorem dX11_goesOut_8 : decode cX11_goesOut 8 = .ok (.iload_n 1, 1) := by decide +kernel
theorem dX11_goesOut_9 : decode cX11_goesOut 9 = .ok (.invokevirtual 216, 3) := by decide +kernel
theorem dX11_goesOut_12 : decode cX11_goesOut 12 = .ok (.istore_n 3, 1) := by decide +kernel
theorem dX11_goesOut_13 : decode cX11_goesOut 13 = .ok (.iload_n 3, 1) := by decide +kernel
theorem dX11_goesOut_14 : decode cX11_goesOut 14 = .ok (.ifCond .ge 4, 3) := by decide +kernel
theorem dX11_goesOut_17 : decode cX11_goesOut 17 = .ok (.return_, 1) := by decide +kernel
theorem dX11_goesOut_18 : decode cX11_goesOut 18 = .ok (.aload_n 0, 1) := by decide +kernel
theorem dX11_goesOut_19 : decode cX11_goesOut 19 = .ok (.getfield 56, 3) := by decide +kernel
theorem dX11_goesOut_22 : decode cX11_goesOut 22 = .ok (.iload_n 2, 1) := by decide +kernel
theorem dX11_goesOut_23 : decode cX11_goesOut 23 = .ok (.dup2, 1) := by decide +kernel
theorem dX11_goesOut_24 : decode cX11_goesOut 24 = .ok (.iaload, 1) := by decide +kernel
theorem dX11_goesOut_25 : decode cX11_goesOut 25 = .ok (.iconst 1, 1) := by decide +kernel
theorem dX11_goesOut_26 : decode cX11_goesOut 26 = .ok (.isub, 1) := by decide +kernel
theorem dX11_goesOut_27 : decode cX11_goesOut 27 = .ok (.iastore, 1) := by decide +kernel
theorem dX11_goesOut_28 : decode cX11_goesOut 28 = .ok (.iload_n 3, 1) := by decide +kernel
theorem dX11_goesOut_29 : decode cX11_goesOut 29 = .ok (.istore 4, 2) := by decide +kernel
theorem dX11_goesOut_31 : decode cX11_goesOut 31 = .ok (.iload 4, 2) := by decide +kernel
theorem dX11_goesOut_33 : decode cX11_goesOut 33 = .ok (.aload_n 0, 1) := by decide +kernel
theorem dX11_goesOut_34 : decode cX11_goesOut 34 = .ok (.getfield 56, 3) := by decide +kernel
theorem dX11_goesOut_37 : decode cX11_goesOut 37 = .ok (.iload_n 2, 1) := by decide +kernel
theorem dX11_goesOut_38 : decode cX11_goesOut 38 = .ok (.iaload, 1) := by decide +kernel
theorem dX11_goesOut_39 : decode cX11_goesOut 39 = .ok (.if_icmp .ge 35, 3) := by decide +kernel
theorem dX11_goesOut_42 : decode cX11_goesOut 42 = .ok (.aload_n 0, 1) := by decide +kernel
theorem dX11_goesOut_43 : decode cX11_goesOut 43 = .ok (.getfield 59, 3) := by decide +kernel
theorem dX11_goesOut_46 : decode cX11_goesOut 46 = .ok (.bipush 60, 2) := by decide +kernel
theorem dX11_goesOut_48 : decode cX11_goesOut 48 = .ok (.iload_n 2, 1) := by decide +kernel
theorem dX11_goesOut_49 : decode cX11_goesOut 49 = .ok (.imul, 1) := by decide +kernel
theorem dX11_goesOut_50 : decode cX11_goesOut 50 = .ok (.iload 4, 2) := by decide +kernel
theorem dX11_goesOut_52 : decode cX11_goesOut 52 = .ok (.iadd, 1) := by decide +kernel
theorem dX11_goesOut_53 : decode cX11_goesOut 53 = .ok (.aload_n 0, 1) := by decide +kernel
theorem dX11_goesOut_54 : decode cX11_goesOut 54 = .ok (.getfield 59, 3) := by decide +kernel
theorem dX11_goesOut_57 : decode cX11_goesOut 57 = .ok (.bipush 60, 2) := by decide +kernel
theorem dX11_goesOut_59 : decode cX11_goesOut 59 = .ok (.iload_n 2, 1) := by decide +kernel
theorem dX11_goesOut_60 : decode cX11_goesOut 60 = .ok (.imul, 1) := by decide +kernel
theorem dX11_goesOut_61 : decode cX11_goesOut 61 = .ok (.iload 4, 2) := by decide +kernel
theorem dX11_goesOut_63 : decode cX11_goesOut 63 = .ok (.iadd, 1) := by decide +kernel
theorem dX11_goesOut_64 : decode cX11_goesOut 64 = .ok (.iconst 1, 1) := by decide +kernel
theorem dX11_goesOut_65 : decode cX11_goesOut 65 = .ok (.iadd, 1) := by decide +kernel
theorem dX11_goesOut_66 : decode cX11_goesOut 66 = .ok (.iaload, 1) := by decide +kernel
theorem dX11_goesOut_67 : decode cX11_goesOut 67 = .ok (.iastore, 1) := by decide +kernel
theorem dX11_goesOut_68 : decode cX11_goesOut 68 = .ok (.iinc 4 1, 3) := by decide +kernel
theorem dX11_goesOut_71 : decode cX11_goesOut 71 = .ok (.goto (-40), 3) := by decide +kernel
theorem dX11_goesOut_74 : decode cX11_goesOut 74 = .ok (.return_, 1) := by decide +kernel
theorem dX11_join_0 : decode cX11_join 0 = .ok (.aload_n 0, 1) := by decide +kernel
theorem dX11_join_1 : decode cX11_join 1 = .ok (.iload_n 1, 1) := by decide +kernel
theorem dX11_join_2 : decode cX11_join 2 = .ok (.invokevirtual 220, 3) := by decide +kernel
theorem dX11_join_5 : decode cX11_join 5 = .ok (.ifCond .ne 5, 3) := by decide +kernel
theorem dX11_join_8 : decode cX11_join 8 = .ok (.iconst (-1), 1) := by decide +kernel
theorem dX11_join_9 : decode cX11_join 9 = .ok (.ireturn, 1) := by decide +kernel
theorem dX11_join_10 : decode cX11_join 10 = .ok (.aload_n 0, 1) := by decide +kernel
theorem dX11_join_11 : decode cX11_join 11 = .ok (.iload_n 1, 1) := by decide +kernel
theorem dX11_join_12 : decode cX11_join 12 = .ok (.invokevirtual 216, 3) := by decide +kernel
theorem dX11_join_15 : decode cX11_join 15 = .ok (.ifCond .ge 25, 3) := by decide +kernel
theorem dX11_join_18 : decode cX11_join 18 = .ok (.aload_n 0, 1) := by decide +kernel
theorem dX11_join_19 : decode cX11_join 19 = .ok (.getfield 43, 3) := by decide +kernel
theorem dX11_join_22 : decode cX11_join 22 = .ok (.iload_n 1, 1) := by decide +kernel
theorem dX11_join_23 : decode cX11_join 23 = .ok (.iaload, 1) := by decide +kernel
theorem dX11_join_24 : decode cX11_join 24 = .ok (.aload_n 0, 1) := by decide +kernel
theorem dX11_join_25 : decode cX11_join 25 = .ok (.getfield 178, 3) := by decide +kernel
theorem dX11_join_28 : decode cX11_join 28 = .ok (.if_icmp .gt 12, 3) := by decide +kernel
theorem dX11_join_31 : decode cX11_join 31 = .ok (.aload_n 0, 1) := by decide +kernel
theorem dX11_join_32 : decode cX11_join 32 = .ok (.getfield 52, 3) := by decide +kernel
theorem dX11_join_35 : decode cX11_join 35 = .ok (.iload_n 1, 1) := by decide +kernel
theorem dX11_join_36 : decode cX11_join 36 = .ok (.baload, 1) := by decide +kernel
theorem dX11_join_37 : decode cX11_join 37 = .ok (.ifCond .eq 6, 3) := by decide +kernel
theorem dX11_join_40 : decode cX11_join 40 = .ok (.bipush (-2), 2) := by decide +kernel
theorem dX11_join_42 : decode cX11_join 42 = .ok (.ireturn, 1) := by decide +kernel
theorem dX11_join_43 : decode cX11_join 43 = .ok (.aload_n 0, 1) := by decide +kernel
theorem dX11_join_44 : decode cX11_join 44 = .ok (.iload_n 1, 1) := by decide +kernel
theorem dX11_join_45 : decode cX11_join 45 = .ok (.invokevirtual 223, 3) := by decide +kernel
theorem dX11_join_48 : decode cX11_join 48 = .ok (.aload_n 0, 1) := by decide +kernel
theorem dX11_join_49 : decode cX11_join 49 = .ok (.getfield 56, 3) := by decide +kernel
theorem dX11_join_52 : decode cX11_join 52 = .ok (.aload_n 0, 1) := by decide +kernel
theorem dX11_join_53 : decode cX11_join 53 = .ok (.getfield 28, 3) := by decide +kernel
theorem dX11_join_56 : decode cX11_join 56 = .ok (.iload_n 1, 1) := by decide +kernel
theorem dX11_join_57 : decode cX11_join 57 = .ok (.iaload, 1) := by decide +kernel
theorem dX11_join_58 : decode cX11_join 58 = .ok (.iaload, 1) := by decide +kernel
theorem dX11_join_59 : decode cX11_join 59 = .ok (.ireturn, 1) := by decide +kernel
theorem dX11_leave_0 : decode cX11_leave 0 = .ok (.aload_n 0, 1) := by decide +kernel
theorem dX11_leave_1 : decode cX11_leave 1 = .ok (.iload_n 1, 1) := by decide +kernel
theorem dX11_leave_2 : decode cX11_leave 2 = .ok (.invokevirtual 220, 3) := by decide +kernel
theorem dX11_leave_5 : decode cX11_leave 5 = .ok (.ifCond .ne 5, 3) := by decide +kernel
theorem dX11_leave_8 : decode cX11_leave 8 = .ok (.iconst (-1), 1) := by decide +kernel
theorem dX11_leave_9 : decode cX11_leave 9 = .ok (.ireturn, 1) := by decide +kernel
theorem dX11_leave_10 : decode cX11_leave 10 = .ok (.aload_n 0, 1) := by decide +kernel
theorem dX11_leave_11 : decode cX11_leave 11 = .ok (.iload_n 1, 1) := by decide +kernel
theorem dX11_leave_12 : decode cX11_leave 12 = .ok (.invokevirtual 216, 3) := by decide +kernel
theorem dX11_leave_15 : decode cX11_leave 15 = .ok (.ifCond .ge 6, 3) := by decide +kernel
theorem dX11_leave_18 : decode cX11_leave 18 = .ok (.bipush (-2), 2) := by decide +kernel
theorem dX11_leave_20 : decode cX11_leave 20 = .ok (.ireturn, 1) := by decide +kernel
theorem dX11_leave_21 : decode cX11_leave 21 = .ok (.aload_n 0, 1) := by decide +kernel
theorem dX11_leave_22 : decode cX11_leave 22 = .ok (.iload_n 1, 1) := by decide +kernel
theorem dX11_leave_23 : decode cX11_leave 23 = .ok (.invokevirtual 227, 3) := by decide +kernel
theorem dX11_leave_26 : decode cX11_leave 26 = .ok (.iconst 1, 1) := by decide +kernel
theorem dX11_leave_27 : decode cX11_leave 27 = .ok (.ireturn, 1) := by decide +kernel
theorem dX11_gone_0 : decode cX11_gone 0 = .ok (.aload_n 0, 1) := by decide +kernel
theorem dX11_gone_1 : decode cX11_gone 1 = .ok (.iload_n 1, 1) := by decide +kernel
theorem dX11_gone_2 : decode cX11_gone 2 = .ok (.invokevirtual 220, 3) := by decide +kernel
theorem dX11_gone_5 : decode cX11_gone 5 = .ok (.ifCond .ne 5, 3) := by decide +kernel
theorem dX11_gone_8 : decode cX11_gone 8 = .ok (.iconst (-1), 1) := by decide +kernel
theorem dX11_gone_9 : decode cX11_gone 9 = .ok (.ireturn, 1) := by decide +kernel
theorem dX11_gone_10 : decode cX11_gone 10 = .ok (.aload_n 0, 1) := by decide +kernel
theorem dX11_gone_11 : decode cX11_gone 11 = .ok (.getfield 52, 3) := by decide +kernel
theorem dX11_gone_14 : decode cX11_gone 14 = .ok (.iload_n 1, 1) := by decide +kernel
theorem dX11_gone_15 : decode cX11_gone 15 = .ok (.baload, 1) := by decide +kernel
theorem dX11_gone_16 : decode cX11_gone 16 = .ok (.ifCond .ne 16, 3) := by decide +kernel
theorem dX11_gone_19 : decode cX11_gone 19 = .ok (.aload_n 0, 1) := by decide +kernel
theorem dX11_gone_20 : decode cX11_gone 20 = .ok (.getfield 43, 3) := by decide +kernel
theorem dX11_gone_23 : decode cX11_gone 23 = .ok (.iload_n 1, 1) := by decide +kernel
theorem dX11_gone_24 : decode cX11_gone 24 = .ok (.iaload, 1) := by decide +kernel
theorem dX11_gone_25 : decode cX11_gone 25 = .ok (.aload_n 0, 1) := by decide +kernel
theorem dX11_gone_26 : decode cX11_gone 26 = .ok (.getfield 178, 3) := by decide +kernel
theorem dX11_gone_29 : decode cX11_gone 29 = .ok (.if_icmp .le 6, 3) := by decide +kernel
theorem dX11_gone_32 : decode cX11_gone 32 = .ok (.bipush (-2), 2) := by decide +kernel
theorem dX11_gone_34 : decode cX11_gone 34 = .ok (.ireturn, 1) := by decide +kernel
theorem dX11_gone_35 : decode cX11_gone 35 = .ok (.aload_n 0, 1) := by decide +kernel
theorem dX11_gone_36 : decode cX11_gone 36 = .ok (.getfield 52, 3) := by decide +kernel
theorem dX11_gone_39 : decode cX11_gone 39 = .ok (.iload_n 1, 1) := by decide +kernel
theorem dX11_gone_40 : decode cX11_gone 40 = .ok (.iconst 1, 1) := by decide +kernel
theorem dX11_gone_41 : decode cX11_gone 41 = .ok (.bastore, 1) := by decide +kernel
theorem dX11_gone_42 : decode cX11_gone 42 = .ok (.aload_n 0, 1) := by decide +kernel
theorem dX11_gone_43 : decode cX11_gone 43 = .ok (.iload_n 1, 1) := by decide +kernel
theorem dX11_gone_44 : decode cX11_gone 44 = .ok (.invokevirtual 227, 3) := by decide +kernel
theorem dX11_gone_47 : decode cX11_gone 47 = .ok (.iconst 1, 1) := by decide +kernel
theorem dX11_gone_48 : decode cX11_gone 48 = .ok (.ireturn, 1) := by decide +kernel
theorem dX11_about_0 : decode cX11_about 0 = .ok (.aload_n 0, 1) := by decide +kernel
theorem dX11_about_1 : decode cX11_about 1 = .ok (.iload_n 1, 1) := by decide +kernel
theorem dX11_about_2 : decode cX11_about 2 = .ok (.invokevirtual 220, 3) := by decide +kernel
theorem dX11_about_5 : decode cX11_about 5 = .ok (.ifCond .ne 6, 3) := by decide +kernel
theorem dX11_about_8 : decode cX11_about 8 = .ok (.bipush (-2), 2) := by decide +kernel
theorem dX11_about_10 : decode cX11_about 10 = .ok (.ireturn, 1) := by decide +kernel
theorem dX11_about_11 : decode cX11_about 11 = .ok (.iload_n 2, 1) := by decide +kernel
theorem dX11_about_12 : decode cX11_about 12 = .ok (.tableswitch 133 0 9 #[56, 63, 70, 77, 84, 91, 98, 105, 111, 126], 56) := by decide +kernel
theorem dX11_about_68 : decode cX11_about 68 = .ok (.aload_n 0, 1) := by decide +kernel
theorem dX11_about_69 : decode cX11_about 69 = .ok (.getfield 28, 3) := by decide +kernel
theorem dX11_about_72 : decode cX11_about 72 = .ok (.iload_n 1, 1) := by decide +kernel
theorem dX11_about_73 : decode cX11_about 73 = .ok (.iaload, 1) := by decide +kernel
theorem dX11_about_74 : decode cX11_about 74 = .ok (.ireturn, 1) := by decide +kernel
theorem dX11_about_75 : decode cX11_about 75 = .ok (.aload_n 0, 1) := by decide +kernel
theorem dX11_about_76 : decode cX11_about 76 = .ok (.getfield 31, 3) := by decide +kernel
theorem dX11_about_79 : decode cX11_about 79 = .ok (.iload_n 1, 1) := by decide +kernel
theorem dX11_about_80 : decode cX11_about 80 = .ok (.iaload, 1) := by decide +kernel
theorem dX11_about_81 : decode cX11_about 81 = .ok (.ireturn, 1) := by decide +kernel
theorem dX11_about_82 : decode cX11_about 82 = .ok (.aload_n 0, 1) := by decide +kernel
theorem dX11_about_83 : decode cX11_about 83 = .ok (.getfield 34, 3) := by decide +kernel
theorem dX11_about_86 : decode cX11_about 86 = .ok (.iload_n 1, 1) := by decide +kernel
theorem dX11_about_87 : decode cX11_about 87 = .ok (.iaload, 1) := by decide +kernel
theorem dX11_about_88 : decode cX11_about 88 = .ok (.ireturn, 1) := by decide +kernel
theorem dX11_about_89 : decode cX11_about 89 = .ok (.aload_n 0, 1) := by decide +kernel
theorem dX11_about_90 : decode cX11_about 90 = .ok (.getfield 37, 3) := by decide +kernel
theorem dX11_about_93 : decode cX11_about 93 = .ok (.iload_n 1, 1) := by decide +kernel
theorem dX11_about_94 : decode cX11_about 94 = .ok (.iaload, 1) := by decide +kernel
theorem dX11_about_95 : decode cX11_about 95 = .ok (.ireturn, 1) := by decide +kernel
theorem dX11_about_96 : decode cX11_about 96 = .ok (.aload_n 0, 1) := by decide +kernel
theorem dX11_about_97 : decode cX11_about 97 = .ok (.getfield 40, 3) := by decide +kernel
theorem dX11_about_100 : decode cX11_about 100 = .ok (.iload_n 1, 1) := by decide +kernel
theorem dX11_about_101 : decode cX11_about 101 = .ok (.iaload, 1) := by decide +kernel
theorem dX11_about_102 : decode cX11_about 102 = .ok (.ireturn, 1) := by decide +kernel
theorem dX11_about_103 : decode cX11_about 103 = .ok (.aload_n 0, 1) := by decide +kernel
theorem dX11_about_104 : decode cX11_about 104 = .ok (.getfield 43, 3) := by decide +kernel
theorem dX11_about_107 : decode cX11_about 107 = .ok (.iload_n 1, 1) := by decide +kernel
theorem dX11_about_108 : decode cX11_about 108 = .ok (.iaload, 1) := by decide +kernel
theorem dX11_about_109 : decode cX11_about 109 = .ok (.ireturn, 1) := by decide +kernel
theorem dX11_about_110 : decode cX11_about 110 = .ok (.aload_n 0, 1) := by decide +kernel
theorem dX11_about_111 : decode cX11_about 111 = .ok (.getfield 46, 3) := by decide +kernel
theorem dX11_about_114 : decode cX11_about 114 = .ok (.iload_n 1, 1) := by decide +kernel
theorem dX11_about_115 : decode cX11_about 115 = .ok (.iaload, 1) := by decide +kernel
theorem dX11_about_116 : decode cX11_about 116 = .ok (.ireturn, 1) := by decide +kernel
theorem dX11_about_117 : decode cX11_about 117 = .ok (.aload_n 0, 1) := by decide +kernel
theorem dX11_about_118 : decode cX11_about 118 = .ok (.iload_n 1, 1) := by decide +kernel
theorem dX11_about_119 : decode cX11_about 119 = .ok (.invokevirtual 216, 3) := by decide +kernel
theorem dX11_about_122 : decode cX11_about 122 = .ok (.ireturn, 1) := by decide +kernel
theorem dX11_about_123 : decode cX11_about 123 = .ok (.aload_n 0, 1) := by decide +kernel
theorem dX11_about_124 : decode cX11_about 124 = .ok (.getfield 52, 3) := by decide +kernel
theorem dX11_about_127 : decode cX11_about 127 = .ok (.iload_n 1, 1) := by decide +kernel
theorem dX11_about_128 : decode cX11_about 128 = .ok (.baload, 1) := by decide +kernel
theorem dX11_about_129 : decode cX11_about 129 = .ok (.ifCond .eq 7, 3) := by decide +kernel
theorem dX11_about_132 : decode cX11_about 132 = .ok (.iconst 1, 1) := by decide +kernel
theorem dX11_about_133 : decode cX11_about 133 = .ok (.goto 4, 3) := by decide +kernel
theorem dX11_about_136 : decode cX11_about 136 = .ok (.iconst 0, 1) := by decide +kernel
theorem dX11_about_137 : decode cX11_about 137 = .ok (.ireturn, 1) := by decide +kernel
theorem dX11_about_138 : decode cX11_about 138 = .ok (.aload_n 0, 1) := by decide +kernel
theorem dX11_about_139 : decode cX11_about 139 = .ok (.getfield 49, 3) := by decide +kernel
theorem dX11_about_142 : decode cX11_about 142 = .ok (.iload_n 1, 1) := by decide +kernel
theorem dX11_about_143 : decode cX11_about 143 = .ok (.iaload, 1) := by decide +kernel
theorem dX11_about_144 : decode cX11_about 144 = .ok (.ireturn, 1) := by decide +kernel
theorem dX11_about_145 : decode cX11_about 145 = .ok (.bipush (-2), 2) := by decide +kernel
theorem dX11_about_147 : decode cX11_about 147 = .ok (.ireturn, 1) := by decide +kernel
theorem dX11_turn_0 : decode cX11_turn 0 = .ok (.iload_n 1, 1) := by decide +kernel
theorem dX11_turn_1 : decode cX11_turn 1 = .ok (.invokestatic 213, 3) := by decide +kernel
theorem dX11_turn_4 : decode cX11_turn 4 = .ok (.ifCond .eq 33, 3) := by decide +kernel
theorem dX11_turn_7 : decode cX11_turn 7 = .ok (.iload_n 2, 1) := by decide +kernel
theorem dX11_turn_8 : decode cX11_turn 8 = .ok (.iconst 0, 1) := by decide +kernel
theorem dX11_turn_9 : decode cX11_turn 9 = .ok (.aload_n 0, 1) := by decide +kernel
theorem dX11_turn_10 : decode cX11_turn 10 = .ok (.getfield 56, 3) := by decide +kernel
theorem dX11_turn_13 : decode cX11_turn 13 = .ok (.iload_n 1, 1) := by decide +kernel
theorem dX11_turn_14 : decode cX11_turn 14 = .ok (.iaload, 1) := by decide +kernel
theorem dX11_turn_15 : decode cX11_turn 15 = .ok (.iconst 1, 1) := by decide +kernel
theorem dX11_turn_16 : decode cX11_turn 16 = .ok (.isub, 1) := by decide +kernel
theorem dX11_turn_17 : decode cX11_turn 17 = .ok (.invokestatic 184, 3) := by decide +kernel
theorem dX11_turn_20 : decode cX11_turn 20 = .ok (.ifCond .eq 17, 3) := by decide +kernel
theorem dX11_turn_23 : decode cX11_turn 23 = .ok (.aload_n 0, 1) := by decide +kernel
theorem dX11_turn_24 : decode cX11_turn 24 = .ok (.getfield 59, 3) := by decide +kernel
theorem dX11_turn_27 : decode cX11_turn 27 = .ok (.bipush 60, 2) := by decide +kernel
theorem dX11_turn_29 : decode cX11_turn 29 = .ok (.iload_n 1, 1) := by decide +kernel
theorem dX11_turn_30 : decode cX11_turn 30 = .ok (.imul, 1) := by decide +kernel
theorem dX11_turn_31 : decode cX11_turn 31 = .ok (.iload_n 2, 1) := by decide +kernel
theorem dX11_turn_32 : decode cX11_turn 32 = .ok (.iadd, 1) := by decide +kernel
theorem dX11_turn_33 : decode cX11_turn 33 = .ok (.iaload, 1) := by decide +kernel
theorem dX11_turn_34 : decode cX11_turn 34 = .ok (.goto 4, 3) := by decide +kernel
theorem dX11_turn_37 : decode cX11_turn 37 = .ok (.iconst (-1), 1) := by decide +kernel
theorem dX11_turn_38 : decode cX11_turn 38 = .ok (.ireturn, 1) := by decide +kernel
theorem dX11_dice_0 : decode cX11_dice 0 = .ok (.iload_n 1, 1) := by decide +kernel
theorem dX11_dice_1 : decode cX11_dice 1 = .ok (.invokestatic 213, 3) := by decide +kernel
theorem dX11_dice_4 : decode cX11_dice 4 = .ok (.ifCond .eq 12, 3) := by decide +kernel
theorem dX11_dice_7 : decode cX11_dice 7 = .ok (.iload_n 2, 1) := by decide +kernel
theorem dX11_dice_8 : decode cX11_dice 8 = .ok (.iconst 0, 1) := by decide +kernel
theorem dX11_dice_9 : decode cX11_dice 9 = .ok (.iconst 1, 1) := by decide +kernel
theorem dX11_dice_10 : decode cX11_dice 10 = .ok (.invokestatic 184, 3) := by decide +kernel
theorem dX11_dice_13 : decode cX11_dice 13 = .ok (.ifCond .ne 5, 3) := by decide +kernel
theorem dX11_dice_16 : decode cX11_dice 16 = .ok (.iconst (-1), 1) := by decide +kernel
theorem dX11_dice_17 : decode cX11_dice 17 = .ok (.ireturn, 1) := by decide +kernel
theorem dX11_dice_18 : decode cX11_dice 18 = .ok (.aload_n 0, 1) := by decide +kernel
theorem dX11_dice_19 : decode cX11_dice 19 = .ok (.getfield 62, 3) := by decide +kernel
theorem dX11_dice_22 : decode cX11_dice 22 = .ok (.iload_n 1, 1) := by decide +kernel
theorem dX11_dice_23 : decode cX11_dice 23 = .ok (.baload, 1) := by decide +kernel
theorem dX11_dice_24 : decode cX11_dice 24 = .ok (.ifCond .eq 7, 3) := by decide +kernel
theorem dX11_dice_27 : decode cX11_dice 27 = .ok (.iconst 1, 1) := by decide +kernel
theorem dX11_dice_28 : decode cX11_dice 28 = .ok (.goto 4, 3) := by decide +kernel
theorem dX11_dice_31 : decode cX11_dice 31 = .ok (.iconst 0, 1) := by decide +kernel
theorem dX11_dice_32 : decode cX11_dice 32 = .ok (.istore 4, 2) := by decide +kernel
theorem dX11_dice_34 : decode cX11_dice 34 = .ok (.aload_n 0, 1) := by decide +kernel
theorem dX11_dice_35 : decode cX11_dice 35 = .ok (.getfield 62, 3) := by decide +kernel
theorem dX11_dice_38 : decode cX11_dice 38 = .ok (.iload_n 1, 1) := by decide +kernel
theorem dX11_dice_39 : decode cX11_dice 39 = .ok (.iload_n 2, 1) := by decide +kernel
theorem dX11_dice_40 : decode cX11_dice 40 = .ok (.iconst 1, 1) := by decide +kernel
theorem dX11_dice_41 : decode cX11_dice 41 = .ok (.if_icmp .ne 7, 3) := by decide +kernel
theorem dX11_dice_44 : decode cX11_dice 44 = .ok (.iconst 1, 1) := by decide +kernel
theorem dX11_dice_45 : decode cX11_dice 45 = .ok (.goto 4, 3) := by decide +kernel
theorem dX11_dice_48 : decode cX11_dice 48 = .ok (.iconst 0, 1) := by decide +kernel
theorem dX11_dice_49 : decode cX11_dice 49 = .ok (.bastore, 1) := by decide +kernel
theorem dX11_dice_50 : decode cX11_dice 50 = .ok (.iload_n 2, 1) := by decide +kernel
theorem dX11_dice_51 : decode cX11_dice 51 = .ok (.iconst 1, 1) := by decide +kernel
theorem dX11_dice_52 : decode cX11_dice 52 = .ok (.if_icmp .ne 10, 3) := by decide +kernel
theorem dX11_dice_55 : decode cX11_dice 55 = .ok (.aload_n 0, 1) := by decide +kernel
theorem dX11_dice_56 : decode cX11_dice 56 = .ok (.getfield 65, 3) := by decide +kernel
theorem dX11_dice_59 : decode cX11_dice 59 = .ok (.iload_n 1, 1) := by decide +kernel
theorem dX11_dice_60 : decode cX11_dice 60 = .ok (.iload_n 3, 1) := by decide +kernel
theorem dX11_dice_61 : decode cX11_dice 61 = .ok (.iastore, 1) := by decide +kernel
theorem dX11_dice_62 : decode cX11_dice 62 = .ok (.iload 4, 2) := by decide +kernel
theorem dX11_dice_64 : decode cX11_dice 64 = .ok (.ireturn, 1) := by decide +kernel
theorem dX11_freeMen_0 : decode cX11_freeMen 0 = .ok (.iconst 0, 1) := by decide +kernel
theorem dX11_freeMen_1 : decode cX11_freeMen 1 = .ok (.istore_n 2, 1) := by decide +kernel
theorem dX11_freeMen_2 : decode cX11_freeMen 2 = .ok (.iconst 0, 1) := by decide +kernel
theorem dX11_freeMen_3 : decode cX11_freeMen 3 = .ok (.istore_n 3, 1) := by decide +kernel
theorem dX11_freeMen_4 : decode cX11_freeMen 4 = .ok (.iload_n 3, 1) := by decide +kernel
theorem dX11_freeMen_5 : decode cX11_freeMen 5 = .ok (.aload_n 0, 1) := by decide +kernel
theorem dX11_freeMen_6 : decode cX11_freeMen 6 = .ok (.getfield 210, 3) := by decide +kernel
theorem dX11_freeMen_9 : decode cX11_freeMen 9 = .ok (.if_icmp .ge 62, 3) := by decide +kernel
theorem dX11_freeMen_12 : decode cX11_freeMen 12 = .ok (.iload_n 2, 1) := by decide +kernel
theorem dX11_freeMen_13 : decode cX11_freeMen 13 = .ok (.aload_n 0, 1) := by decide +kernel
theorem dX11_freeMen_14 : decode cX11_freeMen 14 = .ok (.getfield 28, 3) := by decide +kernel
theorem dX11_freeMen_17 : decode cX11_freeMen 17 = .ok (.iload_n 3, 1) := by decide +kernel
theorem dX11_freeMen_18 : decode cX11_freeMen 18 = .ok (.iaload, 1) := by decide +kernel
theorem dX11_freeMen_19 : decode cX11_freeMen 19 = .ok (.iload_n 1, 1) := by decide +kernel
theorem dX11_freeMen_20 : decode cX11_freeMen 20 = .ok (.if_icmp .ne 42, 3) := by decide +kernel
theorem dX11_freeMen_23 : decode cX11_freeMen 23 = .ok (.aload_n 0, 1) := by decide +kernel
theorem dX11_freeMen_24 : decode cX11_freeMen 24 = .ok (.getfield 43, 3) := by decide +kernel
theorem dX11_freeMen_27 : decode cX11_freeMen 27 = .ok (.iload_n 3, 1) := by decide +kernel
theorem dX11_freeMen_28 : decode cX11_freeMen 28 = .ok (.iaload, 1) := by decide +kernel
theorem dX11_freeMen_29 : decode cX11_freeMen 29 = .ok (.aload_n 0, 1) := by decide +kernel
theorem dX11_freeMen_30 : decode cX11_freeMen 30 = .ok (.getfield 178, 3) := by decide +kernel
theorem dX11_freeMen_33 : decode cX11_freeMen 33 = .ok (.if_icmp .gt 29, 3) := by decide +kernel
theorem dX11_freeMen_36 : decode cX11_freeMen 36 = .ok (.aload_n 0, 1) := by decide +kernel
theorem dX11_freeMen_37 : decode cX11_freeMen 37 = .ok (.getfield 46, 3) := by decide +kernel
theorem dX11_freeMen_40 : decode cX11_freeMen 40 = .ok (.iload_n 3, 1) := by decide +kernel
theorem dX11_freeMen_41 : decode cX11_freeMen 41 = .ok (.iaload, 1) := by decide +kernel
theorem dX11_freeMen_42 : decode cX11_freeMen 42 = .ok (.aload_n 0, 1) := by decide +kernel
theorem dX11_freeMen_43 : decode cX11_freeMen 43 = .ok (.getfield 178, 3) := by decide +kernel
theorem dX11_freeMen_46 : decode cX11_freeMen 46 = .ok (.if_icmp .gt 16, 3) := by decide +kernel
theorem dX11_freeMen_49 : decode cX11_freeMen 49 = .ok (.aload_n 0, 1) := by decide +kernel
theorem dX11_freeMen_50 : decode cX11_freeMen 50 = .ok (.getfield 52, 3) := by decide +kernel
theorem dX11_freeMen_53 : decode cX11_freeMen 53 = .ok (.iload_n 3, 1) := by decide +kernel
theorem dX11_freeMen_54 : decode cX11_freeMen 54 = .ok (.baload, 1) := by decide +kernel
theorem dX11_freeMen_55 : decode cX11_freeMen 55 = .ok (.ifCond .ne 7, 3) := by decide +kernel
theorem dX11_freeMen_58 : decode cX11_freeMen 58 = .ok (.iconst 1, 1) := by decide +kernel
theorem dX11_freeMen_59 : decode cX11_freeMen 59 = .ok (.goto 4, 3) := by decide +kernel
theorem dX11_freeMen_62 : decode cX11_freeMen 62 = .ok (.iconst 0, 1) := by decide +kernel
theorem dX11_freeMen_63 : decode cX11_freeMen 63 = .ok (.iadd, 1) := by decide +kernel
theorem dX11_freeMen_64 : decode cX11_freeMen 64 = .ok (.istore_n 2, 1) := by decide +kernel
theorem dX11_freeMen_65 : decode cX11_freeMen 65 = .ok (.iinc 3 1, 3) := by decide +kernel
theorem dX11_freeMen_68 : decode cX11_freeMen 68 = .ok (.goto (-64), 3) := by decide +kernel
theorem dX11_freeMen_71 : decode cX11_freeMen 71 = .ok (.iload_n 2, 1) := by decide +kernel
theorem dX11_freeMen_72 : decode cX11_freeMen 72 = .ok (.ireturn, 1) := by decide +kernel
theorem dX11_feed_0 : decode cX11_feed 0 = .ok (.aload_n 0, 1) := by decide +kernel
theorem dX11_feed_1 : decode cX11_feed 1 = .ok (.getfield 230, 3) := by decide +kernel
theorem dX11_feed_4 : decode cX11_feed 4 = .ok (.bipush 20, 2) := by decide +kernel
theorem dX11_feed_6 : decode cX11_feed 6 = .ok (.iadd, 1) := by decide +kernel
theorem dX11_feed_7 : decode cX11_feed 7 = .ok (.sipush 200, 3) := by decide +kernel
theorem dX11_feed_10 : decode cX11_feed 10 = .ok (.if_icmp .le 6, 3) := by decide +kernel
theorem dX11_feed_13 : decode cX11_feed 13 = .ok (.bipush (-3), 2) := by decide +kernel
theorem dX11_feed_15 : decode cX11_feed 15 = .ok (.ireturn, 1) := by decide +kernel
theorem dX11_feed_16 : decode cX11_feed 16 = .ok (.aload_n 0, 1) := by decide +kernel
theorem dX11_feed_17 : decode cX11_feed 17 = .ok (.iload_n 1, 1) := by decide +kernel
theorem dX11_feed_18 : decode cX11_feed 18 = .ok (.invokevirtual 233, 3) := by decide +kernel
theorem dX11_feed_21 : decode cX11_feed 21 = .ok (.aload_n 0, 1) := by decide +kernel
theorem dX11_feed_22 : decode cX11_feed 22 = .ok (.iload_n 2, 1) := by decide +kernel
theorem dX11_feed_23 : decode cX11_feed 23 = .ok (.invokevirtual 233, 3) := by decide +kernel
theorem dX11_feed_26 : decode cX11_feed 26 = .ok (.aload_n 0, 1) := by decide +kernel
theorem dX11_feed_27 : decode cX11_feed 27 = .ok (.iload_n 3, 1) := by decide +kernel
theorem dX11_feed_28 : decode cX11_feed 28 = .ok (.invokevirtual 233, 3) := by decide +kernel
theorem dX11_feed_31 : decode cX11_feed 31 = .ok (.aload_n 0, 1) := by decide +kernel
theorem dX11_feed_32 : decode cX11_feed 32 = .ok (.iload 4, 2) := by decide +kernel
theorem dX11_feed_34 : decode cX11_feed 34 = .ok (.invokevirtual 233, 3) := by decide +kernel
theorem dX11_feed_37 : decode cX11_feed 37 = .ok (.aload_n 0, 1) := by decide +kernel
theorem dX11_feed_38 : decode cX11_feed 38 = .ok (.iload 5, 2) := by decide +kernel
theorem dX11_feed_40 : decode cX11_feed 40 = .ok (.invokevirtual 233, 3) := by decide +kernel
theorem dX11_feed_43 : decode cX11_feed 43 = .ok (.aload_n 0, 1) := by decide +kernel
theorem dX11_feed_44 : decode cX11_feed 44 = .ok (.getfield 230, 3) := by decide +kernel
theorem dX11_feed_47 : decode cX11_feed 47 = .ok (.ireturn, 1) := by decide +kernel
theorem dX11_four_0 : decode cX11_four 0 = .ok (.iconst 3, 1) := by decide +kernel
theorem dX11_four_1 : decode cX11_four 1 = .ok (.istore_n 2, 1) := by decide +kernel
theorem dX11_four_2 : decode cX11_four 2 = .ok (.iload_n 2, 1) := by decide +kernel
theorem dX11_four_3 : decode cX11_four 3 = .ok (.ifCond .lt 35, 3) := by decide +kernel
theorem dX11_four_6 : decode cX11_four 6 = .ok (.aload_n 0, 1) := by decide +kernel
theorem dX11_four_7 : decode cX11_four 7 = .ok (.getfield 68, 3) := by decide +kernel
theorem dX11_four_10 : decode cX11_four 10 = .ok (.aload_n 0, 1) := by decide +kernel
theorem dX11_four_11 : decode cX11_four 11 = .ok (.getfield 230, 3) := by decide +kernel
theorem dX11_four_14 : decode cX11_four 14 = .ok (.iload_n 1, 1) := by decide +kernel
theorem dX11_four_15 : decode cX11_four 15 = .ok (.bipush 8, 2) := by decide +kernel
theorem dX11_four_17 : decode cX11_four 17 = .ok (.iload_n 2, 1) := by decide +kernel
theorem dX11_four_18 : decode cX11_four 18 = .ok (.imul, 1) := by decide +kernel
theorem dX11_four_19 : decode cX11_four 19 = .ok (.ishr, 1) := by decide +kernel
theorem dX11_four_20 : decode cX11_four 20 = .ok (.i2b, 1) := by decide +kernel
theorem dX11_four_21 : decode cX11_four 21 = .ok (.bastore, 1) := by decide +kernel
theorem dX11_four_22 : decode cX11_four 22 = .ok (.aload_n 0, 1) := by decide +kernel
theorem dX11_four_23 : decode cX11_four 23 = .ok (.dup, 1) := by decide +kernel
theorem dX11_four_24 : decode cX11_four 24 = .ok (.getfield 230, 3) := by decide +kernel
theorem dX11_four_27 : decode cX11_four 27 = .ok (.iconst 1, 1) := by decide +kernel
theorem dX11_four_28 : decode cX11_four 28 = .ok (.iadd, 1) := by decide +kernel
theorem dX11_four_29 : decode cX11_four 29 = .ok (.putfield 230, 3) := by decide +kernel
theorem dX11_four_32 : decode cX11_four 32 = .ok (.iinc 2 (-1), 3) := by decide +kernel
theorem dX11_four_35 : decode cX11_four 35 = .ok (.goto (-33), 3) := by decide +kernel
theorem dX11_four_38 : decode cX11_four 38 = .ok (.return_, 1) := by decide +kernel
theorem dX11_end_0 : decode cX11_end 0 = .ok (.iload_n 1, 1) := by decide +kernel
theorem dX11_end_1 : decode cX11_end 1 = .ok (.iconst 0, 1) := by decide +kernel
theorem dX11_end_2 : decode cX11_end 2 = .ok (.aload_n 0, 1) := by decide +kernel
theorem dX11_end_3 : decode cX11_end 3 = .ok (.getfield 230, 3) := by decide +kernel
theorem dX11_end_6 : decode cX11_end 6 = .ok (.invokestatic 184, 3) := by decide +kernel
theorem dX11_end_9 : decode cX11_end 9 = .ok (.ifCond .ne 5, 3) := by decide +kernel
theorem dX11_end_12 : decode cX11_end 12 = .ok (.iconst (-1), 1) := by decide +kernel
theorem dX11_end_13 : decode cX11_end 13 = .ok (.ireturn, 1) := by decide +kernel
theorem dX11_end_14 : decode cX11_end 14 = .ok (.aload_n 0, 1) := by decide +kernel
theorem dX11_end_15 : decode cX11_end 15 = .ok (.iload_n 1, 1) := by decide +kernel
theorem dX11_end_16 : decode cX11_end 16 = .ok (.putfield 230, 3) := by decide +kernel
theorem dX11_end_19 : decode cX11_end 19 = .ok (.iload_n 1, 1) := by decide +kernel
theorem dX11_end_20 : decode cX11_end 20 = .ok (.ireturn, 1) := by decide +kernel
theorem dX11_isLetter_0 : decode cX11_isLetter 0 = .ok (.iload_n 0, 1) := by decide +kernel
theorem dX11_isLetter_1 : decode cX11_isLetter 1 = .ok (.bipush 97, 2) := by decide +kernel
theorem dX11_isLetter_3 : decode cX11_isLetter 3 = .ok (.if_icmp .lt 13, 3) := by decide +kernel
theorem dX11_isLetter_6 : decode cX11_isLetter 6 = .ok (.iload_n 0, 1) := by decide +kernel
theorem dX11_isLetter_7 : decode cX11_isLetter 7 = .ok (.bipush 122, 2) := by decide +kernel
theorem dX11_isLetter_9 : decode cX11_isLetter 9 = .ok (.if_icmp .gt 7, 3) := by decide +kernel
theorem dX11_isLetter_12 : decode cX11_isLetter 12 = .ok (.iconst 1, 1) := by decide +kernel
theorem dX11_isLetter_13 : decode cX11_isLetter 13 = .ok (.goto 4, 3) := by decide +kernel
theorem dX11_isLetter_16 : decode cX11_isLetter 16 = .ok (.iconst 0, 1) := by decide +kernel
theorem dX11_isLetter_17 : decode cX11_isLetter 17 = .ok (.ireturn, 1) := by decide +kernel
theorem dX11_isDigit_0 : decode cX11_isDigit 0 = .ok (.iload_n 0, 1) := by decide +kernel
theorem dX11_isDigit_1 : decode cX11_isDigit 1 = .ok (.bipush 48, 2) := by decide +kernel
theorem dX11_isDigit_3 : decode cX11_isDigit 3 = .ok (.if_icmp .lt 13, 3) := by decide +kernel
theorem dX11_isDigit_6 : decode cX11_isDigit 6 = .ok (.iload_n 0, 1) := by decide +kernel
theorem dX11_isDigit_7 : decode cX11_isDigit 7 = .ok (.bipush 57, 2) := by decide +kernel
theorem dX11_isDigit_9 : decode cX11_isDigit 9 = .ok (.if_icmp .gt 7, 3) := by decide +kernel
theorem dX11_isDigit_12 : decode cX11_isDigit 12 = .ok (.iconst 1, 1) := by decide +kernel
theorem dX11_isDigit_13 : decode cX11_isDigit 13 = .ok (.goto 4, 3) := by decide +kernel
theorem dX11_isDigit_16 : decode cX11_isDigit 16 = .ok (.iconst 0, 1) := by decide +kernel
theorem dX11_isDigit_17 : decode cX11_isDigit 17 = .ok (.ireturn, 1) := by decide +kernel
theorem dX11_advance_0 : decode cX11_advance 0 = .ok (.aload_n 0, 1) := by decide +kernel
theorem dX11_advance_1 : decode cX11_advance 1 = .ok (.getfield 236, 3) := by decide +kernel
theorem dX11_advance_4 : decode cX11_advance 4 = .ok (.aload_n 0, 1) := by decide +kernel
theorem dX11_advance_5 : decode cX11_advance 5 = .ok (.getfield 230, 3) := by decide +kernel
theorem dX11_advance_8 : decode cX11_advance 8 = .ok (.if_icmp .ge 30, 3) := by decide +kernel
theorem dX11_advance_11 : decode cX11_advance 11 = .ok (.aload_n 0, 1) := by decide +kernel
theorem dX11_advance_12 : decode cX11_advance 12 = .ok (.getfield 68, 3) := by decide +kernel
theorem dX11_advance_15 : decode cX11_advance 15 = .ok (.aload_n 0, 1) := by decide +kernel
theorem dX11_advance_16 : decode cX11_advance 16 = .ok (.getfield 236, 3) := by decide +kernel
theorem dX11_advance_19 : decode cX11_advance 19 = .ok (.baload, 1) := by decide +kernel
theorem dX11_advance_20 : decode cX11_advance 20 = .ok (.bipush 32, 2) := by decide +kernel
theorem dX11_advance_22 : decode cX11_advance 22 = .ok (.if_icmp .ne 16, 3) := by decide +kernel
theorem dX11_advance_25 : decode cX11_advance 25 = .ok (.aload_n 0, 1) := by decide +kernel
theorem dX11_advance_26 : decode cX11_advance 26 = .ok (.dup, 1) := by decide +kernel
theorem dX11_advance_27 : decode cX11_advance 27 = .ok (.getfield 236, 3) := by decide +kernel
theorem dX11_advance_30 : decode cX11_advance 30 = .ok (.iconst 1, 1) := by decide +kernel
theorem dX11_advance_31 : decode cX11_advance 31 = .ok (.iadd, 1) := by decide +kernel
theorem dX11_advance_32 : decode cX11_advance 32 = .ok (.putfield 236, 3) := by decide +kernel
theorem dX11_advance_35 : decode cX11_advance 35 = .ok (.goto (-35), 3) := by decide +kernel
theorem dX11_advance_38 : decode cX11_advance 38 = .ok (.aload_n 0, 1) := by decide +kernel
theorem dX11_advance_39 : decode cX11_advance 39 = .ok (.aload_n 0, 1) := by decide +kernel
theorem dX11_advance_40 : decode cX11_advance 40 = .ok (.getfield 236, 3) := by decide +kernel
theorem dX11_advance_43 : decode cX11_advance 43 = .ok (.putfield 239, 3) := by decide +kernel
theorem dX11_advance_46 : decode cX11_advance 46 = .ok (.aload_n 0, 1) := by decide +kernel
theorem dX11_advance_47 : decode cX11_advance 47 = .ok (.getfield 236, 3) := by decide +kernel
theorem dX11_advance_50 : decode cX11_advance 50 = .ok (.aload_n 0, 1) := by decide +kernel
theorem dX11_advance_51 : decode cX11_advance 51 = .ok (.getfield 230, 3) := by decide +kernel
theorem dX11_advance_54 : decode cX11_advance 54 = .ok (.if_icmp .ne 9, 3) := by decide +kernel
theorem dX11_advance_57 : decode cX11_advance 57 = .ok (.aload_n 0, 1) := by decide +kernel
theorem dX11_advance_58 : decode cX11_advance 58 = .ok (.iconst 0, 1) := by decide +kernel
theorem dX11_advance_59 : decode cX11_advance 59 = .ok (.putfield 242, 3) := by decide +kernel
theorem dX11_advance_62 : decode cX11_advance 62 = .ok (.return_, 1) := by decide +kernel
theorem dX11_advance_63 : decode cX11_advance 63 = .ok (.aload_n 0, 1) := by decide +kernel
