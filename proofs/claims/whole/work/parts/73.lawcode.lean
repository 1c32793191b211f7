/-! Printed by tools/law.py: the law, instruction by instruction. -/
theorem ld_0 : decode code 0 = .ok (.new 8, 3) := by decide +kernel
theorem ld_3 : decode code 3 = .ok (.dup, 1) := by decide +kernel
theorem ld_4 : decode code 4 = .ok (.invokespecial 35, 3) := by decide +kernel
theorem ld_7 : decode code 7 = .ok (.astore_n 1, 1) := by decide +kernel
theorem ld_8 : decode code 8 = .ok (.new 36, 3) := by decide +kernel
theorem ld_11 : decode code 11 = .ok (.dup, 1) := by decide +kernel
theorem ld_12 : decode code 12 = .ok (.invokespecial 38, 3) := by decide +kernel
theorem ld_15 : decode code 15 = .ok (.astore_n 2, 1) := by decide +kernel
theorem ld_16 : decode code 16 = .ok (.iconst 1, 1) := by decide +kernel
theorem ld_17 : decode code 17 = .ok (.newarray .long, 2) := by decide +kernel
theorem ld_19 : decode code 19 = .ok (.astore_n 3, 1) := by decide +kernel
theorem ld_20 : decode code 20 = .ok (.iconst 0, 1) := by decide +kernel
theorem ld_21 : decode code 21 = .ok (.istore 4, 2) := by decide +kernel
theorem ld_23 : decode code 23 = .ok (.iload 4, 2) := by decide +kernel
theorem ld_25 : decode code 25 = .ok (.aload_n 0, 1) := by decide +kernel
theorem ld_26 : decode code 26 = .ok (.arraylength, 1) := by decide +kernel
theorem ld_27 : decode code 27 = .ok (.iconst 4, 1) := by decide +kernel
theorem ld_28 : decode code 28 = .ok (.isub, 1) := by decide +kernel
theorem ld_29 : decode code 29 = .ok (.if_icmp .gt 1005, 3) := by decide +kernel
theorem ld_32 : decode code 32 = .ok (.aload_n 0, 1) := by decide +kernel
theorem ld_33 : decode code 33 = .ok (.iload 4, 2) := by decide +kernel
theorem ld_35 : decode code 35 = .ok (.iaload, 1) := by decide +kernel
theorem ld_36 : decode code 36 = .ok (.bipush 31, 2) := by decide +kernel
theorem ld_38 : decode code 38 = .ok (.iand, 1) := by decide +kernel
theorem ld_39 : decode code 39 = .ok (.tableswitch 989 0 23 #[109, 193, 289, 345, 382, 395, 451, 547, 615, 640, 677, 702, 727, 740, 753, 766, 779, 804, 829, 840, 853, 878, 903, 952], 109) := by decide +kernel
theorem ld_148 : decode code 148 = .ok (.aload_n 1, 1) := by decide +kernel
theorem ld_149 : decode code 149 = .ok (.aload_n 0, 1) := by decide +kernel
theorem ld_150 : decode code 150 = .ok (.iload 4, 2) := by decide +kernel
theorem ld_152 : decode code 152 = .ok (.iconst 1, 1) := by decide +kernel
theorem ld_153 : decode code 153 = .ok (.iadd, 1) := by decide +kernel
theorem ld_154 : decode code 154 = .ok (.iaload, 1) := by decide +kernel
theorem ld_155 : decode code 155 = .ok (.aload_n 0, 1) := by decide +kernel
theorem ld_156 : decode code 156 = .ok (.iload 4, 2) := by decide +kernel
theorem ld_158 : decode code 158 = .ok (.iconst 2, 1) := by decide +kernel
theorem ld_159 : decode code 159 = .ok (.iadd, 1) := by decide +kernel
theorem ld_160 : decode code 160 = .ok (.iaload, 1) := by decide +kernel
theorem ld_161 : decode code 161 = .ok (.ifCond .eq 7, 3) := by decide +kernel
theorem ld_164 : decode code 164 = .ok (.iconst 1, 1) := by decide +kernel
theorem ld_165 : decode code 165 = .ok (.goto 4, 3) := by decide +kernel
theorem ld_168 : decode code 168 = .ok (.iconst 0, 1) := by decide +kernel
theorem ld_169 : decode code 169 = .ok (.aload_n 3, 1) := by decide +kernel
theorem ld_170 : decode code 170 = .ok (.invokestatic 39, 3) := by decide +kernel
theorem ld_173 : decode code 173 = .ok (.istore 5, 2) := by decide +kernel
theorem ld_175 : decode code 175 = .ok (.aload_n 2, 1) := by decide +kernel
theorem ld_176 : decode code 176 = .ok (.aload_n 0, 1) := by decide +kernel
theorem ld_177 : decode code 177 = .ok (.iload 4, 2) := by decide +kernel
theorem ld_179 : decode code 179 = .ok (.iconst 1, 1) := by decide +kernel
theorem ld_180 : decode code 180 = .ok (.iadd, 1) := by decide +kernel
theorem ld_181 : decode code 181 = .ok (.iaload, 1) := by decide +kernel
theorem ld_182 : decode code 182 = .ok (.aload_n 0, 1) := by decide +kernel
theorem ld_183 : decode code 183 = .ok (.iload 4, 2) := by decide +kernel
theorem ld_185 : decode code 185 = .ok (.iconst 2, 1) := by decide +kernel
theorem ld_186 : decode code 186 = .ok (.iadd, 1) := by decide +kernel
theorem ld_187 : decode code 187 = .ok (.iaload, 1) := by decide +kernel
theorem ld_188 : decode code 188 = .ok (.ifCond .eq 7, 3) := by decide +kernel
theorem ld_191 : decode code 191 = .ok (.iconst 1, 1) := by decide +kernel
theorem ld_192 : decode code 192 = .ok (.goto 4, 3) := by decide +kernel
theorem ld_195 : decode code 195 = .ok (.iconst 0, 1) := by decide +kernel
theorem ld_196 : decode code 196 = .ok (.invokevirtual 44, 3) := by decide +kernel
theorem ld_199 : decode code 199 = .ok (.istore 6, 2) := by decide +kernel
theorem ld_201 : decode code 201 = .ok (.aload_n 2, 1) := by decide +kernel
theorem ld_202 : decode code 202 = .ok (.invokevirtual 45, 3) := by decide +kernel
theorem ld_205 : decode code 205 = .ok (.iload 5, 2) := by decide +kernel
theorem ld_207 : decode code 207 = .ok (.if_icmp .eq 5, 3) := by decide +kernel
theorem ld_210 : decode code 210 = .ok (.iconst 0, 1) := by decide +kernel
theorem ld_211 : decode code 211 = .ok (.ireturn, 1) := by decide +kernel
theorem ld_212 : decode code 212 = .ok (.iload 5, 2) := by decide +kernel
theorem ld_214 : decode code 214 = .ok (.ifCond .ne 15, 3) := by decide +kernel
theorem ld_217 : decode code 217 = .ok (.aload_n 3, 1) := by decide +kernel
theorem ld_218 : decode code 218 = .ok (.iconst 0, 1) := by decide +kernel
theorem ld_219 : decode code 219 = .ok (.laload, 1) := by decide +kernel
theorem ld_220 : decode code 220 = .ok (.iload 6, 2) := by decide +kernel
theorem ld_222 : decode code 222 = .ok (.i2l, 1) := by decide +kernel
theorem ld_223 : decode code 223 = .ok (.lcmp, 1) := by decide +kernel
theorem ld_224 : decode code 224 = .ok (.ifCond .eq 5, 3) := by decide +kernel
theorem ld_227 : decode code 227 = .ok (.iconst 0, 1) := by decide +kernel
theorem ld_228 : decode code 228 = .ok (.ireturn, 1) := by decide +kernel
theorem ld_229 : decode code 229 = .ok (.goto 799, 3) := by decide +kernel
theorem ld_232 : decode code 232 = .ok (.aload_n 1, 1) := by decide +kernel
theorem ld_233 : decode code 233 = .ok (.aload_n 0, 1) := by decide +kernel
theorem ld_234 : decode code 234 = .ok (.iload 4, 2) := by decide +kernel
theorem ld_236 : decode code 236 = .ok (.iconst 1, 1) := by decide +kernel
theorem ld_237 : decode code 237 = .ok (.iadd, 1) := by decide +kernel
theorem ld_238 : decode code 238 = .ok (.iaload, 1) := by decide +kernel
theorem ld_239 : decode code 239 = .ok (.aload_n 0, 1) := by decide +kernel
theorem ld_240 : decode code 240 = .ok (.iload 4, 2) := by decide +kernel
theorem ld_242 : decode code 242 = .ok (.iconst 2, 1) := by decide +kernel
theorem ld_243 : decode code 243 = .ok (.iadd, 1) := by decide +kernel
theorem ld_244 : decode code 244 = .ok (.iaload, 1) := by decide +kernel
theorem ld_245 : decode code 245 = .ok (.aload_n 0, 1) := by decide +kernel
theorem ld_246 : decode code 246 = .ok (.iload 4, 2) := by decide +kernel
theorem ld_248 : decode code 248 = .ok (.iconst 3, 1) := by decide +kernel
theorem ld_249 : decode code 249 = .ok (.iadd, 1) := by decide +kernel
theorem ld_250 : decode code 250 = .ok (.iaload, 1) := by decide +kernel
theorem ld_251 : decode code 251 = .ok (.ifCond .eq 7, 3) := by decide +kernel
theorem ld_254 : decode code 254 = .ok (.iconst 1, 1) := by decide +kernel
theorem ld_255 : decode code 255 = .ok (.goto 4, 3) := by decide +kernel
theorem ld_258 : decode code 258 = .ok (.iconst 0, 1) := by decide +kernel
theorem ld_259 : decode code 259 = .ok (.aload_n 3, 1) := by decide +kernel
theorem ld_260 : decode code 260 = .ok (.invokestatic 49, 3) := by decide +kernel
theorem ld_263 : decode code 263 = .ok (.istore 5, 2) := by decide +kernel
theorem ld_265 : decode code 265 = .ok (.aload_n 2, 1) := by decide +kernel
theorem ld_266 : decode code 266 = .ok (.aload_n 0, 1) := by decide +kernel
theorem ld_267 : decode code 267 = .ok (.iload 4, 2) := by decide +kernel
theorem ld_269 : decode code 269 = .ok (.iconst 1, 1) := by decide +kernel
theorem ld_270 : decode code 270 = .ok (.iadd, 1) := by decide +kernel
theorem ld_271 : decode code 271 = .ok (.iaload, 1) := by decide +kernel
theorem ld_272 : decode code 272 = .ok (.aload_n 0, 1) := by decide +kernel
theorem ld_273 : decode code 273 = .ok (.iload 4, 2) := by decide +kernel
theorem ld_275 : decode code 275 = .ok (.iconst 2, 1) := by decide +kernel
theorem ld_276 : decode code 276 = .ok (.iadd, 1) := by decide +kernel
theorem ld_277 : decode code 277 = .ok (.iaload, 1) := by decide +kernel
theorem ld_278 : decode code 278 = .ok (.aload_n 0, 1) := by decide +kernel
theorem ld_279 : decode code 279 = .ok (.iload 4, 2) := by decide +kernel
theorem ld_281 : decode code 281 = .ok (.iconst 3, 1) := by decide +kernel
theorem ld_282 : decode code 282 = .ok (.iadd, 1) := by decide +kernel
theorem ld_283 : decode code 283 = .ok (.iaload, 1) := by decide +kernel
theorem ld_284 : decode code 284 = .ok (.ifCond .eq 7, 3) := by decide +kernel
theorem ld_287 : decode code 287 = .ok (.iconst 1, 1) := by decide +kernel
theorem ld_288 : decode code 288 = .ok (.goto 4, 3) := by decide +kernel
theorem ld_291 : decode code 291 = .ok (.iconst 0, 1) := by decide +kernel
theorem ld_292 : decode code 292 = .ok (.invokevirtual 52, 3) := by decide +kernel
theorem ld_295 : decode code 295 = .ok (.istore 6, 2) := by decide +kernel
theorem ld_297 : decode code 297 = .ok (.aload_n 2, 1) := by decide +kernel
theorem ld_298 : decode code 298 = .ok (.invokevirtual 45, 3) := by decide +kernel
theorem ld_301 : decode code 301 = .ok (.iload 5, 2) := by decide +kernel
theorem ld_303 : decode code 303 = .ok (.if_icmp .eq 5, 3) := by decide +kernel
theorem ld_306 : decode code 306 = .ok (.iconst 0, 1) := by decide +kernel
theorem ld_307 : decode code 307 = .ok (.ireturn, 1) := by decide +kernel
theorem ld_308 : decode code 308 = .ok (.iload 5, 2) := by decide +kernel
theorem ld_310 : decode code 310 = .ok (.ifCond .ne 15, 3) := by decide +kernel
theorem ld_313 : decode code 313 = .ok (.aload_n 3, 1) := by decide +kernel
theorem ld_314 : decode code 314 = .ok (.iconst 0, 1) := by decide +kernel
theorem ld_315 : decode code 315 = .ok (.laload, 1) := by decide +kernel
theorem ld_316 : decode code 316 = .ok (.iload 6, 2) := by decide +kernel
theorem ld_318 : decode code 318 = .ok (.i2l, 1) := by decide +kernel
theorem ld_319 : decode code 319 = .ok (.lcmp, 1) := by decide +kernel
theorem ld_320 : decode code 320 = .ok (.ifCond .eq 5, 3) := by decide +kernel
theorem ld_323 : decode code 323 = .ok (.iconst 0, 1) := by decide +kernel
theorem ld_324 : decode code 324 = .ok (.ireturn, 1) := by decide +kernel
theorem ld_325 : decode code 325 = .ok (.goto 703, 3) := by decide +kernel
theorem ld_328 : decode code 328 = .ok (.aload_n 1, 1) := by decide +kernel
theorem ld_329 : decode code 329 = .ok (.aload_n 0, 1) := by decide +kernel
theorem ld_330 : decode code 330 = .ok (.iload 4, 2) := by decide +kernel
theorem ld_332 : decode code 332 = .ok (.iconst 1, 1) := by decide +kernel
theorem ld_333 : decode code 333 = .ok (.iadd, 1) := by decide +kernel
theorem ld_334 : decode code 334 = .ok (.iaload, 1) := by decide +kernel
theorem ld_335 : decode code 335 = .ok (.aload_n 3, 1) := by decide +kernel
theorem ld_336 : decode code 336 = .ok (.invokestatic 53, 3) := by decide +kernel
theorem ld_339 : decode code 339 = .ok (.istore 5, 2) := by decide +kernel
theorem ld_341 : decode code 341 = .ok (.aload_n 2, 1) := by decide +kernel
theorem ld_342 : decode code 342 = .ok (.aload_n 0, 1) := by decide +kernel
theorem ld_343 : decode code 343 = .ok (.iload 4, 2) := by decide +kernel
theorem ld_345 : decode code 345 = .ok (.iconst 1, 1) := by decide +kernel
theorem ld_346 : decode code 346 = .ok (.iadd, 1) := by decide +kernel
theorem ld_347 : decode code 347 = .ok (.iaload, 1) := by decide +kernel
theorem ld_348 : decode code 348 = .ok (.invokevirtual 56, 3) := by decide +kernel
theorem ld_351 : decode code 351 = .ok (.istore 6, 2) := by decide +kernel
theorem ld_353 : decode code 353 = .ok (.aload_n 2, 1) := by decide +kernel
theorem ld_354 : decode code 354 = .ok (.invokevirtual 45, 3) := by decide +kernel
theorem ld_357 : decode code 357 = .ok (.iload 5, 2) := by decide +kernel
theorem ld_359 : decode code 359 = .ok (.if_icmp .eq 5, 3) := by decide +kernel
theorem ld_362 : decode code 362 = .ok (.iconst 0, 1) := by decide +kernel
theorem ld_363 : decode code 363 = .ok (.ireturn, 1) := by decide +kernel
theorem ld_364 : decode code 364 = .ok (.iload 5, 2) := by decide +kernel
theorem ld_366 : decode code 366 = .ok (.ifCond .ne 15, 3) := by decide +kernel
theorem ld_369 : decode code 369 = .ok (.aload_n 3, 1) := by decide +kernel
theorem ld_370 : decode code 370 = .ok (.iconst 0, 1) := by decide +kernel
theorem ld_371 : decode code 371 = .ok (.laload, 1) := by decide +kernel
theorem ld_372 : decode code 372 = .ok (.iload 6, 2) := by decide +kernel
theorem ld_374 : decode code 374 = .ok (.i2l, 1) := by decide +kernel
theorem ld_375 : decode code 375 = .ok (.lcmp, 1) := by decide +kernel
theorem ld_376 : decode code 376 = .ok (.ifCond .eq 5, 3) := by decide +kernel
theorem ld_379 : decode code 379 = .ok (.iconst 0, 1) := by decide +kernel
theorem ld_380 : decode code 380 = .ok (.ireturn, 1) := by decide +kernel
theorem ld_381 : decode code 381 = .ok (.goto 647, 3) := by decide +kernel
theorem ld_384 : decode code 384 = .ok (.aload_n 1, 1) := by decide +kernel
theorem ld_385 : decode code 385 = .ok (.aload_n 0, 1) := by decide +kernel
theorem ld_386 : decode code 386 = .ok (.iload 4, 2) := by decide +kernel
theorem ld_388 : decode code 388 = .ok (.iconst 1, 1) := by decide +kernel
theorem ld_389 : decode code 389 = .ok (.iadd, 1) := by decide +kernel
theorem ld_390 : decode code 390 = .ok (.iaload, 1) := by decide +kernel
theorem ld_391 : decode code 391 = .ok (.aload_n 0, 1) := by decide +kernel
theorem ld_392 : decode code 392 = .ok (.iload 4, 2) := by decide +kernel
theorem ld_394 : decode code 394 = .ok (.iconst 2, 1) := by decide +kernel
theorem ld_395 : decode code 395 = .ok (.iadd, 1) := by decide +kernel
theorem ld_396 : decode code 396 = .ok (.iaload, 1) := by decide +kernel
theorem ld_397 : decode code 397 = .ok (.invokevirtual 57, 3) := by decide +kernel
theorem ld_400 : decode code 400 = .ok (.aload_n 2, 1) := by decide +kernel
theorem ld_401 : decode code 401 = .ok (.aload_n 0, 1) := by decide +kernel
theorem ld_402 : decode code 402 = .ok (.iload 4, 2) := by decide +kernel
theorem ld_404 : decode code 404 = .ok (.iconst 1, 1) := by decide +kernel
theorem ld_405 : decode code 405 = .ok (.iadd, 1) := by decide +kernel
theorem ld_406 : decode code 406 = .ok (.iaload, 1) := by decide +kernel
theorem ld_407 : decode code 407 = .ok (.aload_n 0, 1) := by decide +kernel
theorem ld_408 : decode code 408 = .ok (.iload 4, 2) := by decide +kernel
theorem ld_410 : decode code 410 = .ok (.iconst 2, 1) := by decide +kernel
theorem ld_411 : decode code 411 = .ok (.iadd, 1) := by decide +kernel
theorem ld_412 : decode code 412 = .ok (.iaload, 1) := by decide +kernel
theorem ld_413 : decode code 413 = .ok (.invokevirtual 60, 3) := by decide +kernel
theorem ld_416 : decode code 416 = .ok (.if_icmp .eq 612, 3) := by decide +kernel
theorem ld_419 : decode code 419 = .ok (.iconst 0, 1) := by decide +kernel
theorem ld_420 : decode code 420 = .ok (.ireturn, 1) := by decide +kernel
theorem ld_421 : decode code 421 = .ok (.aload_n 1, 1) := by decide +kernel
theorem ld_422 : decode code 422 = .ok (.invokevirtual 61, 3) := by decide +kernel
theorem ld_425 : decode code 425 = .ok (.aload_n 2, 1) := by decide +kernel
theorem ld_426 : decode code 426 = .ok (.invokevirtual 64, 3) := by decide +kernel
theorem ld_429 : decode code 429 = .ok (.if_icmp .eq 599, 3) := by decide +kernel
theorem ld_432 : decode code 432 = .ok (.iconst 0, 1) := by decide +kernel
theorem ld_433 : decode code 433 = .ok (.ireturn, 1) := by decide +kernel
theorem ld_434 : decode code 434 = .ok (.aload_n 1, 1) := by decide +kernel
theorem ld_435 : decode code 435 = .ok (.aload_n 0, 1) := by decide +kernel
theorem ld_436 : decode code 436 = .ok (.iload 4, 2) := by decide +kernel
theorem ld_438 : decode code 438 = .ok (.iconst 1, 1) := by decide +kernel
theorem ld_439 : decode code 439 = .ok (.iadd, 1) := by decide +kernel
theorem ld_440 : decode code 440 = .ok (.iaload, 1) := by decide +kernel
theorem ld_441 : decode code 441 = .ok (.aload_n 3, 1) := by decide +kernel
theorem ld_442 : decode code 442 = .ok (.invokestatic 65, 3) := by decide +kernel
theorem ld_445 : decode code 445 = .ok (.istore 5, 2) := by decide +kernel
theorem ld_447 : decode code 447 = .ok (.aload_n 2, 1) := by decide +kernel
theorem ld_448 : decode code 448 = .ok (.aload_n 0, 1) := by decide +kernel
theorem ld_449 : decode code 449 = .ok (.iload 4, 2) := by decide +kernel
theorem ld_451 : decode code 451 = .ok (.iconst 1, 1) := by decide +kernel
theorem ld_452 : decode code 452 = .ok (.iadd, 1) := by decide +kernel
theorem ld_453 : decode code 453 = .ok (.iaload, 1) := by decide +kernel
theorem ld_454 : decode code 454 = .ok (.invokevirtual 67, 3) := by decide +kernel
theorem ld_457 : decode code 457 = .ok (.istore 6, 2) := by decide +kernel
theorem ld_459 : decode code 459 = .ok (.aload_n 2, 1) := by decide +kernel
theorem ld_460 : decode code 460 = .ok (.invokevirtual 45, 3) := by decide +kernel
theorem ld_463 : decode code 463 = .ok (.iload 5, 2) := by decide +kernel
theorem ld_465 : decode code 465 = .ok (.if_icmp .eq 5, 3) := by decide +kernel
theorem ld_468 : decode code 468 = .ok (.iconst 0, 1) := by decide +kernel
theorem ld_469 : decode code 469 = .ok (.ireturn, 1) := by decide +kernel
theorem ld_470 : decode code 470 = .ok (.iload 5, 2) := by decide +kernel
theorem ld_472 : decode code 472 = .ok (.ifCond .ne 15, 3) := by decide +kernel
theorem ld_475 : decode code 475 = .ok (.aload_n 3, 1) := by decide +kernel
theorem ld_476 : decode code 476 = .ok (.iconst 0, 1) := by decide +kernel
theorem ld_477 : decode code 477 = .ok (.laload, 1) := by decide +kernel
theorem ld_478 : decode code 478 = .ok (.iload 6, 2) := by decide +kernel
theorem ld_480 : decode code 480 = .ok (.i2l, 1) := by decide +kernel
theorem ld_481 : decode code 481 = .ok (.lcmp, 1) := by decide +kernel
theorem ld_482 : decode code 482 = .ok (.ifCond .eq 5, 3) := by decide +kernel
theorem ld_485 : decode code 485 = .ok (.iconst 0, 1) := by decide +kernel
theorem ld_486 : decode code 486 = .ok (.ireturn, 1) := by decide +kernel
theorem ld_487 : decode code 487 = .ok (.goto 541, 3) := by decide +kernel
theorem ld_490 : decode code 490 = .ok (.aload_n 1, 1) := by decide +kernel
theorem ld_491 : decode code 491 = .ok (.aload_n 0, 1) := by decide +kernel
theorem ld_492 : decode code 492 = .ok (.iload 4, 2) := by decide +kernel
theorem ld_494 : decode code 494 = .ok (.iconst 1, 1) := by decide +kernel
theorem ld_495 : decode code 495 = .ok (.iadd, 1) := by decide +kernel
theorem ld_496 : decode code 496 = .ok (.iaload, 1) := by decide +kernel
theorem ld_497 : decode code 497 = .ok (.aload_n 0, 1) := by decide +kernel
theorem ld_498 : decode code 498 = .ok (.iload 4, 2) := by decide +kernel
theorem ld_500 : decode code 500 = .ok (.iconst 2, 1) := by decide +kernel
theorem ld_501 : decode code 501 = .ok (.iadd, 1) := by decide +kernel
theorem ld_502 : decode code 502 = .ok (.iaload, 1) := by decide +kernel
theorem ld_503 : decode code 503 = .ok (.aload_n 0, 1) := by decide +kernel
theorem ld_504 : decode code 504 = .ok (.iload 4, 2) := by decide +kernel
theorem ld_506 : decode code 506 = .ok (.iconst 3, 1) := by decide +kernel
theorem ld_507 : decode code 507 = .ok (.iadd, 1) := by decide +kernel
theorem ld_508 : decode code 508 = .ok (.iaload, 1) := by decide +kernel
theorem ld_509 : decode code 509 = .ok (.ifCond .eq 7, 3) := by decide +kernel
theorem ld_512 : decode code 512 = .ok (.iconst 1, 1) := by decide +kernel
theorem ld_513 : decode code 513 = .ok (.goto 4, 3) := by decide +kernel
theorem ld_516 : decode code 516 = .ok (.iconst 0, 1) := by decide +kernel
theorem ld_517 : decode code 517 = .ok (.aload_n 3, 1) := by decide +kernel
theorem ld_518 : decode code 518 = .ok (.invokestatic 68, 3) := by decide +kernel
theorem ld_521 : decode code 521 = .ok (.istore 5, 2) := by decide +kernel
theorem ld_523 : decode code 523 = .ok (.aload_n 2, 1) := by decide +kernel
theorem ld_524 : decode code 524 = .ok (.aload_n 0, 1) := by decide +kernel
theorem ld_525 : decode code 525 = .ok (.iload 4, 2) := by decide +kernel
theorem ld_527 : decode code 527 = .ok (.iconst 1, 1) := by decide +kernel
theorem ld_528 : decode code 528 = .ok (.iadd, 1) := by decide +kernel
theorem ld_529 : decode code 529 = .ok (.iaload, 1) := by decide +kernel
theorem ld_530 : decode code 530 = .ok (.aload_n 0, 1) := by decide +kernel
theorem ld_531 : decode code 531 = .ok (.iload 4, 2) := by decide +kernel
theorem ld_533 : decode code 533 = .ok (.iconst 2, 1) := by decide +kernel
theorem ld_534 : decode code 534 = .ok (.iadd, 1) := by decide +kernel
theorem ld_535 : decode code 535 = .ok (.iaload, 1) := by decide +kernel
theorem ld_536 : decode code 536 = .ok (.aload_n 0, 1) := by decide +kernel
theorem ld_537 : decode code 537 = .ok (.iload 4, 2) := by decide +kernel
theorem ld_539 : decode code 539 = .ok (.iconst 3, 1) := by decide +kernel
theorem ld_540 : decode code 540 = .ok (.iadd, 1) := by decide +kernel
theorem ld_541 : decode code 541 = .ok (.iaload, 1) := by decide +kernel
theorem ld_542 : decode code 542 = .ok (.ifCond .eq 7, 3) := by decide +kernel
theorem ld_545 : decode code 545 = .ok (.iconst 1, 1) := by decide +kernel
theorem ld_546 : decode code 546 = .ok (.goto 4, 3) := by decide +kernel
theorem ld_549 : decode code 549 = .ok (.iconst 0, 1) := by decide +kernel
theorem ld_550 : decode code 550 = .ok (.invokevirtual 70, 3) := by decide +kernel
theorem ld_553 : decode code 553 = .ok (.istore 6, 2) := by decide +kernel
theorem ld_555 : decode code 555 = .ok (.aload_n 2, 1) := by decide +kernel
theorem ld_556 : decode code 556 = .ok (.invokevirtual 45, 3) := by decide +kernel
theorem ld_559 : decode code 559 = .ok (.iload 5, 2) := by decide +kernel
theorem ld_561 : decode code 561 = .ok (.if_icmp .eq 5, 3) := by decide +kernel
theorem ld_564 : decode code 564 = .ok (.iconst 0, 1) := by decide +kernel
theorem ld_565 : decode code 565 = .ok (.ireturn, 1) := by decide +kernel
theorem ld_566 : decode code 566 = .ok (.iload 5, 2) := by decide +kernel
theorem ld_568 : decode code 568 = .ok (.ifCond .ne 15, 3) := by decide +kernel
theorem ld_571 : decode code 571 = .ok (.aload_n 3, 1) := by decide +kernel
theorem ld_572 : decode code 572 = .ok (.iconst 0, 1) := by decide +kernel
theorem ld_573 : decode code 573 = .ok (.laload, 1) := by decide +kernel
theorem ld_574 : decode code 574 = .ok (.iload 6, 2) := by decide +kernel
theorem ld_576 : decode code 576 = .ok (.i2l, 1) := by decide +kernel
theorem ld_577 : decode code 577 = .ok (.lcmp, 1) := by decide +kernel
theorem ld_578 : decode code 578 = .ok (.ifCond .eq 5, 3) := by decide +kernel
theorem ld_581 : decode code 581 = .ok (.iconst 0, 1) := by decide +kernel
theorem ld_582 : decode code 582 = .ok (.ireturn, 1) := by decide +kernel
theorem ld_583 : decode code 583 = .ok (.goto 445, 3) := by decide +kernel
theorem ld_586 : decode code 586 = .ok (.aload_n 1, 1) := by decide +kernel
theorem ld_587 : decode code 587 = .ok (.aload_n 0, 1) := by decide +kernel
theorem ld_588 : decode code 588 = .ok (.iload 4, 2) := by decide +kernel
theorem ld_590 : decode code 590 = .ok (.iconst 1, 1) := by decide +kernel
theorem ld_591 : decode code 591 = .ok (.iadd, 1) := by decide +kernel
theorem ld_592 : decode code 592 = .ok (.iaload, 1) := by decide +kernel
theorem ld_593 : decode code 593 = .ok (.aload_n 0, 1) := by decide +kernel
theorem ld_594 : decode code 594 = .ok (.iload 4, 2) := by decide +kernel
theorem ld_596 : decode code 596 = .ok (.iconst 2, 1) := by decide +kernel
theorem ld_597 : decode code 597 = .ok (.iadd, 1) := by decide +kernel
theorem ld_598 : decode code 598 = .ok (.iaload, 1) := by decide +kernel
theorem ld_599 : decode code 599 = .ok (.aload_n 3, 1) := by decide +kernel
theorem ld_600 : decode code 600 = .ok (.invokestatic 71, 3) := by decide +kernel
theorem ld_603 : decode code 603 = .ok (.istore 5, 2) := by decide +kernel
theorem ld_605 : decode code 605 = .ok (.aload_n 2, 1) := by decide +kernel
theorem ld_606 : decode code 606 = .ok (.aload_n 0, 1) := by decide +kernel
theorem ld_607 : decode code 607 = .ok (.iload 4, 2) := by decide +kernel
theorem ld_609 : decode code 609 = .ok (.iconst 1, 1) := by decide +kernel
theorem ld_610 : decode code 610 = .ok (.iadd, 1) := by decide +kernel
theorem ld_611 : decode code 611 = .ok (.iaload, 1) := by decide +kernel
theorem ld_612 : decode code 612 = .ok (.aload_n 0, 1) := by decide +kernel
theorem ld_613 : decode code 613 = .ok (.iload 4, 2) := by decide +kernel
theorem ld_615 : decode code 615 = .ok (.iconst 2, 1) := by decide +kernel
theorem ld_616 : decode code 616 = .ok (.iadd, 1) := by decide +kernel
theorem ld_617 : decode code 617 = .ok (.iaload, 1) := by decide +kernel
theorem ld_618 : decode code 618 = .ok (.invokevirtual 74, 3) := by decide +kernel
theorem ld_621 : decode code 621 = .ok (.istore 6, 2) := by decide +kernel
theorem ld_623 : decode code 623 = .ok (.aload_n 2, 1) := by decide +kernel
theorem ld_624 : decode code 624 = .ok (.invokevirtual 45, 3) := by decide +kernel
theorem ld_627 : decode code 627 = .ok (.iload 5, 2) := by decide +kernel
theorem ld_629 : decode code 629 = .ok (.if_icmp .eq 5, 3) := by decide +kernel
theorem ld_632 : decode code 632 = .ok (.iconst 0, 1) := by decide +kernel
theorem ld_633 : decode code 633 = .ok (.ireturn, 1) := by decide +kernel
theorem ld_634 : decode code 634 = .ok (.iload 5, 2) := by decide +kernel
theorem ld_636 : decode code 636 = .ok (.ifCond .ne 15, 3) := by decide +kernel
theorem ld_639 : decode code 639 = .ok (.aload_n 3, 1) := by decide +kernel
theorem ld_640 : decode code 640 = .ok (.iconst 0, 1) := by decide +kernel
theorem ld_641 : decode code 641 = .ok (.laload, 1) := by decide +kernel
theorem ld_642 : decode code 642 = .ok (.iload 6, 2) := by decide +kernel
theorem ld_644 : decode code 644 = .ok (.i2l, 1) := by decide +kernel
theorem ld_645 : decode code 645 = .ok (.lcmp, 1) := by decide +kernel
theorem ld_646 : decode code 646 = .ok (.ifCond .eq 5, 3) := by decide +kernel
theorem ld_649 : decode code 649 = .ok (.iconst 0, 1) := by decide +kernel
theorem ld_650 : decode code 650 = .ok (.ireturn, 1) := by decide +kernel
theorem ld_651 : decode code 651 = .ok (.goto 377, 3) := by decide +kernel
theorem ld_654 : decode code 654 = .ok (.aload_n 1, 1) := by decide +kernel
theorem ld_655 : decode code 655 = .ok (.aload_n 0, 1) := by decide +kernel
theorem ld_656 : decode code 656 = .ok (.iload 4, 2) := by decide +kernel
theorem ld_658 : decode code 658 = .ok (.iconst 1, 1) := by decide +kernel
theorem ld_659 : decode code 659 = .ok (.iadd, 1) := by decide +kernel
theorem ld_660 : decode code 660 = .ok (.iaload, 1) := by decide +kernel
theorem ld_661 : decode code 661 = .ok (.invokevirtual 75, 3) := by decide +kernel
theorem ld_664 : decode code 664 = .ok (.aload_n 2, 1) := by decide +kernel
theorem ld_665 : decode code 665 = .ok (.aload_n 0, 1) := by decide +kernel
theorem ld_666 : decode code 666 = .ok (.iload 4, 2) := by decide +kernel
theorem ld_668 : decode code 668 = .ok (.iconst 1, 1) := by decide +kernel
theorem ld_669 : decode code 669 = .ok (.iadd, 1) := by decide +kernel
theorem ld_670 : decode code 670 = .ok (.iaload, 1) := by decide +kernel
theorem ld_671 : decode code 671 = .ok (.invokevirtual 78, 3) := by decide +kernel
theorem ld_674 : decode code 674 = .ok (.if_icmp .eq 354, 3) := by decide +kernel
theorem ld_677 : decode code 677 = .ok (.iconst 0, 1) := by decide +kernel
theorem ld_678 : decode code 678 = .ok (.ireturn, 1) := by decide +kernel
theorem ld_679 : decode code 679 = .ok (.aload_n 1, 1) := by decide +kernel
theorem ld_680 : decode code 680 = .ok (.aload_n 0, 1) := by decide +kernel
theorem ld_681 : decode code 681 = .ok (.iload 4, 2) := by decide +kernel
theorem ld_683 : decode code 683 = .ok (.iconst 1, 1) := by decide +kernel
theorem ld_684 : decode code 684 = .ok (.iadd, 1) := by decide +kernel
theorem ld_685 : decode code 685 = .ok (.iaload, 1) := by decide +kernel
theorem ld_686 : decode code 686 = .ok (.aload_n 0, 1) := by decide +kernel
theorem ld_687 : decode code 687 = .ok (.iload 4, 2) := by decide +kernel
theorem ld_689 : decode code 689 = .ok (.iconst 2, 1) := by decide +kernel
theorem ld_690 : decode code 690 = .ok (.iadd, 1) := by decide +kernel
theorem ld_691 : decode code 691 = .ok (.iaload, 1) := by decide +kernel
theorem ld_692 : decode code 692 = .ok (.invokevirtual 79, 3) := by decide +kernel
theorem ld_695 : decode code 695 = .ok (.aload_n 2, 1) := by decide +kernel
theorem ld_696 : decode code 696 = .ok (.aload_n 0, 1) := by decide +kernel
theorem ld_697 : decode code 697 = .ok (.iload 4, 2) := by decide +kernel
theorem ld_699 : decode code 699 = .ok (.iconst 1, 1) := by decide +kernel
theorem ld_700 : decode code 700 = .ok (.iadd, 1) := by decide +kernel
theorem ld_701 : decode code 701 = .ok (.iaload, 1) := by decide +kernel
theorem ld_702 : decode code 702 = .ok (.aload_n 0, 1) := by decide +kernel
theorem ld_703 : decode code 703 = .ok (.iload 4, 2) := by decide +kernel
theorem ld_705 : decode code 705 = .ok (.iconst 2, 1) := by decide +kernel
theorem ld_706 : decode code 706 = .ok (.iadd, 1) := by decide +kernel
theorem ld_707 : decode code 707 = .ok (.iaload, 1) := by decide +kernel
theorem ld_708 : decode code 708 = .ok (.invokevirtual 82, 3) := by decide +kernel
theorem ld_711 : decode code 711 = .ok (.if_icmp .eq 317, 3) := by decide +kernel
theorem ld_714 : decode code 714 = .ok (.iconst 0, 1) := by decide +kernel
theorem ld_715 : decode code 715 = .ok (.ireturn, 1) := by decide +kernel
theorem ld_716 : decode code 716 = .ok (.aload_n 1, 1) := by decide +kernel
theorem ld_717 : decode code 717 = .ok (.aload_n 0, 1) := by decide +kernel
theorem ld_718 : decode code 718 = .ok (.iload 4, 2) := by decide +kernel
theorem ld_720 : decode code 720 = .ok (.iconst 1, 1) := by decide +kernel
theorem ld_721 : decode code 721 = .ok (.iadd, 1) := by decide +kernel
theorem ld_722 : decode code 722 = .ok (.iaload, 1) := by decide +kernel
theorem ld_723 : decode code 723 = .ok (.invokevirtual 83, 3) := by decide +kernel
theorem ld_726 : decode code 726 = .ok (.aload_n 2, 1) := by decide +kernel
theorem ld_727 : decode code 727 = .ok (.aload_n 0, 1) := by decide +kernel
theorem ld_728 : decode code 728 = .ok (.iload 4, 2) := by decide +kernel
theorem ld_730 : decode code 730 = .ok (.iconst 1, 1) := by decide +kernel
theorem ld_731 : decode code 731 = .ok (.iadd, 1) := by decide +kernel
theorem ld_732 : decode code 732 = .ok (.iaload, 1) := by decide +kernel
theorem ld_733 : decode code 733 = .ok (.invokevirtual 86, 3) := by decide +kernel
theorem ld_736 : decode code 736 = .ok (.if_icmp .eq 292, 3) := by decide +kernel
theorem ld_739 : decode code 739 = .ok (.iconst 0, 1) := by decide +kernel
theorem ld_740 : decode code 740 = .ok (.ireturn, 1) := by decide +kernel
theorem ld_741 : decode code 741 = .ok (.aload_n 1, 1) := by decide +kernel
theorem ld_742 : decode code 742 = .ok (.aload_n 0, 1) := by decide +kernel
theorem ld_743 : decode code 743 = .ok (.iload 4, 2) := by decide +kernel
theorem ld_745 : decode code 745 = .ok (.iconst 1, 1) := by decide +kernel
theorem ld_746 : decode code 746 = .ok (.iadd, 1) := by decide +kernel
theorem ld_747 : decode code 747 = .ok (.iaload, 1) := by decide +kernel
theorem ld_748 : decode code 748 = .ok (.invokevirtual 87, 3) := by decide +kernel
theorem ld_751 : decode code 751 = .ok (.aload_n 2, 1) := by decide +kernel
theorem ld_752 : decode code 752 = .ok (.aload_n 0, 1) := by decide +kernel
theorem ld_753 : decode code 753 = .ok (.iload 4, 2) := by decide +kernel
theorem ld_755 : decode code 755 = .ok (.iconst 1, 1) := by decide +kernel
theorem ld_756 : decode code 756 = .ok (.iadd, 1) := by decide +kernel
theorem ld_757 : decode code 757 = .ok (.iaload, 1) := by decide +kernel
theorem ld_758 : decode code 758 = .ok (.invokevirtual 90, 3) := by decide +kernel
theorem ld_761 : decode code 761 = .ok (.if_icmp .eq 267, 3) := by decide +kernel
theorem ld_764 : decode code 764 = .ok (.iconst 0, 1) := by decide +kernel
theorem ld_765 : decode code 765 = .ok (.ireturn, 1) := by decide +kernel
theorem ld_766 : decode code 766 = .ok (.aload_n 1, 1) := by decide +kernel
theorem ld_767 : decode code 767 = .ok (.invokevirtual 91, 3) := by decide +kernel
theorem ld_770 : decode code 770 = .ok (.aload_n 2, 1) := by decide +kernel
theorem ld_771 : decode code 771 = .ok (.invokevirtual 94, 3) := by decide +kernel
theorem ld_774 : decode code 774 = .ok (.if_icmp .eq 254, 3) := by decide +kernel
theorem ld_777 : decode code 777 = .ok (.iconst 0, 1) := by decide +kernel
theorem ld_778 : decode code 778 = .ok (.ireturn, 1) := by decide +kernel
theorem ld_779 : decode code 779 = .ok (.aload_n 1, 1) := by decide +kernel
theorem ld_780 : decode code 780 = .ok (.invokevirtual 95, 3) := by decide +kernel
theorem ld_783 : decode code 783 = .ok (.aload_n 2, 1) := by decide +kernel
theorem ld_784 : decode code 784 = .ok (.invokevirtual 98, 3) := by decide +kernel
theorem ld_787 : decode code 787 = .ok (.if_icmp .eq 241, 3) := by decide +kernel
theorem ld_790 : decode code 790 = .ok (.iconst 0, 1) := by decide +kernel
theorem ld_791 : decode code 791 = .ok (.ireturn, 1) := by decide +kernel
theorem ld_792 : decode code 792 = .ok (.aload_n 1, 1) := by decide +kernel
theorem ld_793 : decode code 793 = .ok (.invokevirtual 99, 3) := by decide +kernel
theorem ld_796 : decode code 796 = .ok (.aload_n 2, 1) := by decide +kernel
theorem ld_797 : decode code 797 = .ok (.invokevirtual 102, 3) := by decide +kernel
theorem ld_800 : decode code 800 = .ok (.if_icmp .eq 228, 3) := by decide +kernel
theorem ld_803 : decode code 803 = .ok (.iconst 0, 1) := by decide +kernel
theorem ld_804 : decode code 804 = .ok (.ireturn, 1) := by decide +kernel
theorem ld_805 : decode code 805 = .ok (.aload_n 1, 1) := by decide +kernel
theorem ld_806 : decode code 806 = .ok (.invokevirtual 103, 3) := by decide +kernel
theorem ld_809 : decode code 809 = .ok (.aload_n 2, 1) := by decide +kernel
theorem ld_810 : decode code 810 = .ok (.invokevirtual 106, 3) := by decide +kernel
theorem ld_813 : decode code 813 = .ok (.if_icmp .eq 215, 3) := by decide +kernel
theorem ld_816 : decode code 816 = .ok (.iconst 0, 1) := by decide +kernel
theorem ld_817 : decode code 817 = .ok (.ireturn, 1) := by decide +kernel
theorem ld_818 : decode code 818 = .ok (.aload_n 1, 1) := by decide +kernel
theorem ld_819 : decode code 819 = .ok (.aload_n 0, 1) := by decide +kernel
theorem ld_820 : decode code 820 = .ok (.iload 4, 2) := by decide +kernel
theorem ld_822 : decode code 822 = .ok (.iconst 1, 1) := by decide +kernel
theorem ld_823 : decode code 823 = .ok (.iadd, 1) := by decide +kernel
theorem ld_824 : decode code 824 = .ok (.iaload, 1) := by decide +kernel
theorem ld_825 : decode code 825 = .ok (.invokevirtual 107, 3) := by decide +kernel
theorem ld_828 : decode code 828 = .ok (.aload_n 2, 1) := by decide +kernel
theorem ld_829 : decode code 829 = .ok (.aload_n 0, 1) := by decide +kernel
theorem ld_830 : decode code 830 = .ok (.iload 4, 2) := by decide +kernel
theorem ld_832 : decode code 832 = .ok (.iconst 1, 1) := by decide +kernel
theorem ld_833 : decode code 833 = .ok (.iadd, 1) := by decide +kernel
theorem ld_834 : decode code 834 = .ok (.iaload, 1) := by decide +kernel
theorem ld_835 : decode code 835 = .ok (.invokevirtual 111, 3) := by decide +kernel
theorem ld_838 : decode code 838 = .ok (.if_icmp .eq 190, 3) := by decide +kernel
theorem ld_841 : decode code 841 = .ok (.iconst 0, 1) := by decide +kernel
theorem ld_842 : decode code 842 = .ok (.ireturn, 1) := by decide +kernel
theorem ld_843 : decode code 843 = .ok (.aload_n 1, 1) := by decide +kernel
theorem ld_844 : decode code 844 = .ok (.aload_n 0, 1) := by decide +kernel
theorem ld_845 : decode code 845 = .ok (.iload 4, 2) := by decide +kernel
theorem ld_847 : decode code 847 = .ok (.iconst 1, 1) := by decide +kernel
theorem ld_848 : decode code 848 = .ok (.iadd, 1) := by decide +kernel
theorem ld_849 : decode code 849 = .ok (.iaload, 1) := by decide +kernel
theorem ld_850 : decode code 850 = .ok (.invokevirtual 112, 3) := by decide +kernel
theorem ld_853 : decode code 853 = .ok (.aload_n 2, 1) := by decide +kernel
theorem ld_854 : decode code 854 = .ok (.aload_n 0, 1) := by decide +kernel
theorem ld_855 : decode code 855 = .ok (.iload 4, 2) := by decide +kernel
theorem ld_857 : decode code 857 = .ok (.iconst 1, 1) := by decide +kernel
theorem ld_858 : decode code 858 = .ok (.iadd, 1) := by decide +kernel
theorem ld_859 : decode code 859 = .ok (.iaload, 1) := by decide +kernel
theorem ld_860 : decode code 860 = .ok (.invokevirtual 115, 3) := by decide +kernel
theorem ld_863 : decode code 863 = .ok (.if_icmp .eq 165, 3) := by decide +kernel
theorem ld_866 : decode code 866 = .ok (.iconst 0, 1) := by decide +kernel
theorem ld_867 : decode code 867 = .ok (.ireturn, 1) := by decide +kernel
theorem ld_868 : decode code 868 = .ok (.aload_n 1, 1) := by decide +kernel
theorem ld_869 : decode code 869 = .ok (.invokevirtual 116, 3) := by decide +kernel
theorem ld_872 : decode code 872 = .ok (.aload_n 2, 1) := by decide +kernel
theorem ld_873 : decode code 873 = .ok (.invokevirtual 119, 3) := by decide +kernel
theorem ld_876 : decode code 876 = .ok (.goto 152, 3) := by decide +kernel
theorem ld_879 : decode code 879 = .ok (.aload_n 1, 1) := by decide +kernel
theorem ld_880 : decode code 880 = .ok (.invokevirtual 120, 3) := by decide +kernel
theorem ld_883 : decode code 883 = .ok (.aload_n 2, 1) := by decide +kernel
theorem ld_884 : decode code 884 = .ok (.invokevirtual 124, 3) := by decide +kernel
theorem ld_887 : decode code 887 = .ok (.if_icmp .eq 141, 3) := by decide +kernel
theorem ld_890 : decode code 890 = .ok (.iconst 0, 1) := by decide +kernel
theorem ld_891 : decode code 891 = .ok (.ireturn, 1) := by decide +kernel
theorem ld_892 : decode code 892 = .ok (.aload_n 1, 1) := by decide +kernel
theorem ld_893 : decode code 893 = .ok (.aload_n 0, 1) := by decide +kernel
theorem ld_894 : decode code 894 = .ok (.iload 4, 2) := by decide +kernel
theorem ld_896 : decode code 896 = .ok (.iconst 1, 1) := by decide +kernel
theorem ld_897 : decode code 897 = .ok (.iadd, 1) := by decide +kernel
theorem ld_898 : decode code 898 = .ok (.iaload, 1) := by decide +kernel
theorem ld_899 : decode code 899 = .ok (.invokevirtual 125, 3) := by decide +kernel
theorem ld_902 : decode code 902 = .ok (.aload_n 2, 1) := by decide +kernel
theorem ld_903 : decode code 903 = .ok (.aload_n 0, 1) := by decide +kernel
theorem ld_904 : decode code 904 = .ok (.iload 4, 2) := by decide +kernel
theorem ld_906 : decode code 906 = .ok (.iconst 1, 1) := by decide +kernel
theorem ld_907 : decode code 907 = .ok (.iadd, 1) := by decide +kernel
theorem ld_908 : decode code 908 = .ok (.iaload, 1) := by decide +kernel
theorem ld_909 : decode code 909 = .ok (.invokevirtual 128, 3) := by decide +kernel
theorem ld_912 : decode code 912 = .ok (.if_icmp .eq 116, 3) := by decide +kernel
theorem ld_915 : decode code 915 = .ok (.iconst 0, 1) := by decide +kernel
theorem ld_916 : decode code 916 = .ok (.ireturn, 1) := by decide +kernel
theorem ld_917 : decode code 917 = .ok (.aload_n 1, 1) := by decide +kernel
theorem ld_918 : decode code 918 = .ok (.aload_n 0, 1) := by decide +kernel
theorem ld_919 : decode code 919 = .ok (.iload 4, 2) := by decide +kernel
theorem ld_921 : decode code 921 = .ok (.iconst 1, 1) := by decide +kernel
theorem ld_922 : decode code 922 = .ok (.iadd, 1) := by decide +kernel
theorem ld_923 : decode code 923 = .ok (.iaload, 1) := by decide +kernel
theorem ld_924 : decode code 924 = .ok (.invokevirtual 129, 3) := by decide +kernel
theorem ld_927 : decode code 927 = .ok (.aload_n 2, 1) := by decide +kernel
theorem ld_928 : decode code 928 = .ok (.aload_n 0, 1) := by decide +kernel
theorem ld_929 : decode code 929 = .ok (.iload 4, 2) := by decide +kernel
theorem ld_931 : decode code 931 = .ok (.iconst 1, 1) := by decide +kernel
theorem ld_932 : decode code 932 = .ok (.iadd, 1) := by decide +kernel
theorem ld_933 : decode code 933 = .ok (.iaload, 1) := by decide +kernel
theorem ld_934 : decode code 934 = .ok (.invokevirtual 132, 3) := by decide +kernel
theorem ld_937 : decode code 937 = .ok (.if_icmp .eq 91, 3) := by decide +kernel
theorem ld_940 : decode code 940 = .ok (.iconst 0, 1) := by decide +kernel
theorem ld_941 : decode code 941 = .ok (.ireturn, 1) := by decide +kernel
theorem ld_942 : decode code 942 = .ok (.aload_n 1, 1) := by decide +kernel
theorem ld_943 : decode code 943 = .ok (.aload_n 0, 1) := by decide +kernel
theorem ld_944 : decode code 944 = .ok (.iload 4, 2) := by decide +kernel
theorem ld_946 : decode code 946 = .ok (.iconst 1, 1) := by decide +kernel
theorem ld_947 : decode code 947 = .ok (.iadd, 1) := by decide +kernel
theorem ld_948 : decode code 948 = .ok (.iaload, 1) := by decide +kernel
theorem ld_949 : decode code 949 = .ok (.aload_n 0, 1) := by decide +kernel
theorem ld_950 : decode code 950 = .ok (.iload 4, 2) := by decide +kernel
theorem ld_952 : decode code 952 = .ok (.iconst 2, 1) := by decide +kernel
theorem ld_953 : decode code 953 = .ok (.iadd, 1) := by decide +kernel
theorem ld_954 : decode code 954 = .ok (.iaload, 1) := by decide +kernel
theorem ld_955 : decode code 955 = .ok (.aload_n 0, 1) := by decide +kernel
theorem ld_956 : decode code 956 = .ok (.iload 4, 2) := by decide +kernel
theorem ld_958 : decode code 958 = .ok (.iconst 3, 1) := by decide +kernel
theorem ld_959 : decode code 959 = .ok (.iadd, 1) := by decide +kernel
theorem ld_960 : decode code 960 = .ok (.iaload, 1) := by decide +kernel
theorem ld_961 : decode code 961 = .ok (.invokevirtual 133, 3) := by decide +kernel
theorem ld_964 : decode code 964 = .ok (.aload_n 2, 1) := by decide +kernel
theorem ld_965 : decode code 965 = .ok (.aload_n 0, 1) := by decide +kernel
theorem ld_966 : decode code 966 = .ok (.iload 4, 2) := by decide +kernel
theorem ld_968 : decode code 968 = .ok (.iconst 1, 1) := by decide +kernel
theorem ld_969 : decode code 969 = .ok (.iadd, 1) := by decide +kernel
theorem ld_970 : decode code 970 = .ok (.iaload, 1) := by decide +kernel
theorem ld_971 : decode code 971 = .ok (.aload_n 0, 1) := by decide +kernel
theorem ld_972 : decode code 972 = .ok (.iload 4, 2) := by decide +kernel
theorem ld_974 : decode code 974 = .ok (.iconst 2, 1) := by decide +kernel
theorem ld_975 : decode code 975 = .ok (.iadd, 1) := by decide +kernel
theorem ld_976 : decode code 976 = .ok (.iaload, 1) := by decide +kernel
theorem ld_977 : decode code 977 = .ok (.aload_n 0, 1) := by decide +kernel
theorem ld_978 : decode code 978 = .ok (.iload 4, 2) := by decide +kernel
theorem ld_980 : decode code 980 = .ok (.iconst 3, 1) := by decide +kernel
theorem ld_981 : decode code 981 = .ok (.iadd, 1) := by decide +kernel
theorem ld_982 : decode code 982 = .ok (.iaload, 1) := by decide +kernel
theorem ld_983 : decode code 983 = .ok (.invokevirtual 137, 3) := by decide +kernel
theorem ld_986 : decode code 986 = .ok (.if_icmp .eq 42, 3) := by decide +kernel
theorem ld_989 : decode code 989 = .ok (.iconst 0, 1) := by decide +kernel
theorem ld_990 : decode code 990 = .ok (.ireturn, 1) := by decide +kernel
theorem ld_991 : decode code 991 = .ok (.aload_n 1, 1) := by decide +kernel
theorem ld_992 : decode code 992 = .ok (.aload_n 0, 1) := by decide +kernel
theorem ld_993 : decode code 993 = .ok (.iload 4, 2) := by decide +kernel
theorem ld_995 : decode code 995 = .ok (.iconst 1, 1) := by decide +kernel
theorem ld_996 : decode code 996 = .ok (.iadd, 1) := by decide +kernel
theorem ld_997 : decode code 997 = .ok (.iaload, 1) := by decide +kernel
theorem ld_998 : decode code 998 = .ok (.aload_n 0, 1) := by decide +kernel
theorem ld_999 : decode code 999 = .ok (.iload 4, 2) := by decide +kernel
theorem ld_1001 : decode code 1001 = .ok (.iconst 2, 1) := by decide +kernel
theorem ld_1002 : decode code 1002 = .ok (.iadd, 1) := by decide +kernel
theorem ld_1003 : decode code 1003 = .ok (.iaload, 1) := by decide +kernel
theorem ld_1004 : decode code 1004 = .ok (.invokevirtual 138, 3) := by decide +kernel
theorem ld_1007 : decode code 1007 = .ok (.aload_n 2, 1) := by decide +kernel
theorem ld_1008 : decode code 1008 = .ok (.aload_n 0, 1) := by decide +kernel
theorem ld_1009 : decode code 1009 = .ok (.iload 4, 2) := by decide +kernel
theorem ld_1011 : decode code 1011 = .ok (.iconst 1, 1) := by decide +kernel
theorem ld_1012 : decode code 1012 = .ok (.iadd, 1) := by decide +kernel
theorem ld_1013 : decode code 1013 = .ok (.iaload, 1) := by decide +kernel
theorem ld_1014 : decode code 1014 = .ok (.aload_n 0, 1) := by decide +kernel
theorem ld_1015 : decode code 1015 = .ok (.iload 4, 2) := by decide +kernel
theorem ld_1017 : decode code 1017 = .ok (.iconst 2, 1) := by decide +kernel
theorem ld_1018 : decode code 1018 = .ok (.iadd, 1) := by decide +kernel
theorem ld_1019 : decode code 1019 = .ok (.iaload, 1) := by decide +kernel
theorem ld_1020 : decode code 1020 = .ok (.invokevirtual 141, 3) := by decide +kernel
theorem ld_1023 : decode code 1023 = .ok (.if_icmp .eq 5, 3) := by decide +kernel
theorem ld_1026 : decode code 1026 = .ok (.iconst 0, 1) := by decide +kernel
theorem ld_1027 : decode code 1027 = .ok (.ireturn, 1) := by decide +kernel
theorem ld_1028 : decode code 1028 = .ok (.iinc 4 4, 3) := by decide +kernel
theorem ld_1031 : decode code 1031 = .ok (.goto (-1008), 3) := by decide +kernel
theorem ld_1034 : decode code 1034 = .ok (.iconst 1, 1) := by decide +kernel
theorem ld_1035 : decode code 1035 = .ok (.ireturn, 1) := by decide +kernel
