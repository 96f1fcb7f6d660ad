def rm_L_law : Room := { frames := 2048, cells := 601024, slots := 7293034, locals := 84000 }
theorem dL_law_0 : decode cL_law 0 = .ok (.new 8, 3) := by decide +kernel
theorem dL_law_3 : decode cL_law 3 = .ok (.dup, 1) := by decide +kernel
theorem dL_law_4 : decode cL_law 4 = .ok (.invokespecial 132, 3) := by decide +kernel
theorem dL_law_7 : decode cL_law 7 = .ok (.astore_n 1, 1) := by decide +kernel
theorem dL_law_8 : decode cL_law 8 = .ok (.new 133, 3) := by decide +kernel
theorem dL_law_11 : decode cL_law 11 = .ok (.dup, 1) := by decide +kernel
theorem dL_law_12 : decode cL_law 12 = .ok (.invokespecial 135, 3) := by decide +kernel
theorem dL_law_15 : decode cL_law 15 = .ok (.astore_n 2, 1) := by decide +kernel
theorem dL_law_16 : decode cL_law 16 = .ok (.iconst 1, 1) := by decide +kernel
theorem dL_law_17 : decode cL_law 17 = .ok (.newarray .long, 2) := by decide +kernel
theorem dL_law_19 : decode cL_law 19 = .ok (.astore_n 3, 1) := by decide +kernel
theorem dL_law_20 : decode cL_law 20 = .ok (.iconst 0, 1) := by decide +kernel
theorem dL_law_21 : decode cL_law 21 = .ok (.istore 4, 2) := by decide +kernel
theorem dL_law_23 : decode cL_law 23 = .ok (.iload 4, 2) := by decide +kernel
theorem dL_law_25 : decode cL_law 25 = .ok (.aload_n 0, 1) := by decide +kernel
theorem dL_law_26 : decode cL_law 26 = .ok (.arraylength, 1) := by decide +kernel
theorem dL_law_27 : decode cL_law 27 = .ok (.bipush 7, 2) := by decide +kernel
theorem dL_law_29 : decode cL_law 29 = .ok (.isub, 1) := by decide +kernel
theorem dL_law_30 : decode cL_law 30 = .ok (.if_icmp .gt 2941, 3) := by decide +kernel
theorem dL_law_33 : decode cL_law 33 = .ok (.aload_n 0, 1) := by decide +kernel
theorem dL_law_34 : decode cL_law 34 = .ok (.iload 4, 2) := by decide +kernel
theorem dL_law_36 : decode cL_law 36 = .ok (.iaload, 1) := by decide +kernel
theorem dL_law_37 : decode cL_law 37 = .ok (.bipush 63, 2) := by decide +kernel
theorem dL_law_39 : decode cL_law 39 = .ok (.iand, 1) := by decide +kernel
theorem dL_law_40 : decode cL_law 40 = .ok (.tableswitch 2925 0 42 #[188, 288, 301, 314, 382, 486, 604, 684, 776, 879, 959, 1015, 1083, 1096, 1152, 1220, 1288, 1344, 1400, 1456, 1524, 1587, 1655, 1723, 1779, 1866, 1946, 2038, 2129, 2197, 2253, 2373, 2453, 2521, 2534, 2602, 2670, 2726, 2739, 2830, 2886, 2899, 2912], 188) := by decide +kernel
theorem dL_law_228 : decode cL_law 228 = .ok (.aload_n 1, 1) := by decide +kernel
theorem dL_law_229 : decode cL_law 229 = .ok (.aload_n 0, 1) := by decide +kernel
theorem dL_law_230 : decode cL_law 230 = .ok (.iload 4, 2) := by decide +kernel
theorem dL_law_232 : decode cL_law 232 = .ok (.iconst 1, 1) := by decide +kernel
theorem dL_law_233 : decode cL_law 233 = .ok (.iadd, 1) := by decide +kernel
theorem dL_law_234 : decode cL_law 234 = .ok (.iaload, 1) := by decide +kernel
theorem dL_law_235 : decode cL_law 235 = .ok (.i2l, 1) := by decide +kernel
theorem dL_law_236 : decode cL_law 236 = .ok (.bipush 32, 2) := by decide +kernel
theorem dL_law_238 : decode cL_law 238 = .ok (.lshl, 1) := by decide +kernel
theorem dL_law_239 : decode cL_law 239 = .ok (.aload_n 0, 1) := by decide +kernel
theorem dL_law_240 : decode cL_law 240 = .ok (.iload 4, 2) := by decide +kernel
theorem dL_law_242 : decode cL_law 242 = .ok (.iconst 2, 1) := by decide +kernel
theorem dL_law_243 : decode cL_law 243 = .ok (.iadd, 1) := by decide +kernel
theorem dL_law_244 : decode cL_law 244 = .ok (.iaload, 1) := by decide +kernel
theorem dL_law_245 : decode cL_law 245 = .ok (.i2l, 1) := by decide +kernel
theorem dL_law_246 : decode cL_law 246 = .ok (.ldc2_w 136, 3) := by decide +kernel
theorem dL_law_249 : decode cL_law 249 = .ok (.land, 1) := by decide +kernel
theorem dL_law_250 : decode cL_law 250 = .ok (.lor, 1) := by decide +kernel
theorem dL_law_251 : decode cL_law 251 = .ok (.aload_n 0, 1) := by decide +kernel
theorem dL_law_252 : decode cL_law 252 = .ok (.iload 4, 2) := by decide +kernel
theorem dL_law_254 : decode cL_law 254 = .ok (.iconst 3, 1) := by decide +kernel
theorem dL_law_255 : decode cL_law 255 = .ok (.iadd, 1) := by decide +kernel
theorem dL_law_256 : decode cL_law 256 = .ok (.iaload, 1) := by decide +kernel
theorem dL_law_257 : decode cL_law 257 = .ok (.aload_n 3, 1) := by decide +kernel
theorem dL_law_258 : decode cL_law 258 = .ok (.invokestatic 138, 3) := by decide +kernel
theorem dL_law_261 : decode cL_law 261 = .ok (.istore 5, 2) := by decide +kernel
theorem dL_law_263 : decode cL_law 263 = .ok (.aload_n 2, 1) := by decide +kernel
theorem dL_law_264 : decode cL_law 264 = .ok (.aload_n 0, 1) := by decide +kernel
theorem dL_law_265 : decode cL_law 265 = .ok (.iload 4, 2) := by decide +kernel
theorem dL_law_267 : decode cL_law 267 = .ok (.iconst 1, 1) := by decide +kernel
theorem dL_law_268 : decode cL_law 268 = .ok (.iadd, 1) := by decide +kernel
theorem dL_law_269 : decode cL_law 269 = .ok (.iaload, 1) := by decide +kernel
theorem dL_law_270 : decode cL_law 270 = .ok (.i2l, 1) := by decide +kernel
theorem dL_law_271 : decode cL_law 271 = .ok (.bipush 32, 2) := by decide +kernel
theorem dL_law_273 : decode cL_law 273 = .ok (.lshl, 1) := by decide +kernel
theorem dL_law_274 : decode cL_law 274 = .ok (.aload_n 0, 1) := by decide +kernel
theorem dL_law_275 : decode cL_law 275 = .ok (.iload 4, 2) := by decide +kernel
theorem dL_law_277 : decode cL_law 277 = .ok (.iconst 2, 1) := by decide +kernel
theorem dL_law_278 : decode cL_law 278 = .ok (.iadd, 1) := by decide +kernel
theorem dL_law_279 : decode cL_law 279 = .ok (.iaload, 1) := by decide +kernel
theorem dL_law_280 : decode cL_law 280 = .ok (.i2l, 1) := by decide +kernel
theorem dL_law_281 : decode cL_law 281 = .ok (.ldc2_w 136, 3) := by decide +kernel
theorem dL_law_284 : decode cL_law 284 = .ok (.land, 1) := by decide +kernel
theorem dL_law_285 : decode cL_law 285 = .ok (.lor, 1) := by decide +kernel
theorem dL_law_286 : decode cL_law 286 = .ok (.aload_n 0, 1) := by decide +kernel
theorem dL_law_287 : decode cL_law 287 = .ok (.iload 4, 2) := by decide +kernel
theorem dL_law_289 : decode cL_law 289 = .ok (.iconst 3, 1) := by decide +kernel
theorem dL_law_290 : decode cL_law 290 = .ok (.iadd, 1) := by decide +kernel
theorem dL_law_291 : decode cL_law 291 = .ok (.iaload, 1) := by decide +kernel
theorem dL_law_292 : decode cL_law 292 = .ok (.invokevirtual 143, 3) := by decide +kernel
theorem dL_law_295 : decode cL_law 295 = .ok (.istore 6, 2) := by decide +kernel
theorem dL_law_297 : decode cL_law 297 = .ok (.aload_n 2, 1) := by decide +kernel
theorem dL_law_298 : decode cL_law 298 = .ok (.invokevirtual 144, 3) := by decide +kernel
theorem dL_law_301 : decode cL_law 301 = .ok (.iload 5, 2) := by decide +kernel
theorem dL_law_303 : decode cL_law 303 = .ok (.if_icmp .eq 5, 3) := by decide +kernel
theorem dL_law_306 : decode cL_law 306 = .ok (.iconst 0, 1) := by decide +kernel
theorem dL_law_307 : decode cL_law 307 = .ok (.ireturn, 1) := by decide +kernel
theorem dL_law_308 : decode cL_law 308 = .ok (.iload 5, 2) := by decide +kernel
theorem dL_law_310 : decode cL_law 310 = .ok (.ifCond .ne 15, 3) := by decide +kernel
theorem dL_law_313 : decode cL_law 313 = .ok (.aload_n 3, 1) := by decide +kernel
theorem dL_law_314 : decode cL_law 314 = .ok (.iconst 0, 1) := by decide +kernel
theorem dL_law_315 : decode cL_law 315 = .ok (.laload, 1) := by decide +kernel
theorem dL_law_316 : decode cL_law 316 = .ok (.iload 6, 2) := by decide +kernel
theorem dL_law_318 : decode cL_law 318 = .ok (.i2l, 1) := by decide +kernel
theorem dL_law_319 : decode cL_law 319 = .ok (.lcmp, 1) := by decide +kernel
theorem dL_law_320 : decode cL_law 320 = .ok (.ifCond .eq 5, 3) := by decide +kernel
theorem dL_law_323 : decode cL_law 323 = .ok (.iconst 0, 1) := by decide +kernel
theorem dL_law_324 : decode cL_law 324 = .ok (.ireturn, 1) := by decide +kernel
theorem dL_law_325 : decode cL_law 325 = .ok (.goto 2640, 3) := by decide +kernel
theorem dL_law_328 : decode cL_law 328 = .ok (.aload_n 1, 1) := by decide +kernel
theorem dL_law_329 : decode cL_law 329 = .ok (.invokevirtual 148, 3) := by decide +kernel
theorem dL_law_332 : decode cL_law 332 = .ok (.aload_n 2, 1) := by decide +kernel
theorem dL_law_333 : decode cL_law 333 = .ok (.invokevirtual 151, 3) := by decide +kernel
theorem dL_law_336 : decode cL_law 336 = .ok (.if_icmp .eq 2629, 3) := by decide +kernel
theorem dL_law_339 : decode cL_law 339 = .ok (.iconst 0, 1) := by decide +kernel
theorem dL_law_340 : decode cL_law 340 = .ok (.ireturn, 1) := by decide +kernel
theorem dL_law_341 : decode cL_law 341 = .ok (.aload_n 1, 1) := by decide +kernel
theorem dL_law_342 : decode cL_law 342 = .ok (.invokevirtual 152, 3) := by decide +kernel
theorem dL_law_345 : decode cL_law 345 = .ok (.aload_n 2, 1) := by decide +kernel
theorem dL_law_346 : decode cL_law 346 = .ok (.invokevirtual 155, 3) := by decide +kernel
theorem dL_law_349 : decode cL_law 349 = .ok (.if_icmp .eq 2616, 3) := by decide +kernel
theorem dL_law_352 : decode cL_law 352 = .ok (.iconst 0, 1) := by decide +kernel
theorem dL_law_353 : decode cL_law 353 = .ok (.ireturn, 1) := by decide +kernel
theorem dL_law_354 : decode cL_law 354 = .ok (.aload_n 1, 1) := by decide +kernel
theorem dL_law_355 : decode cL_law 355 = .ok (.aload_n 0, 1) := by decide +kernel
theorem dL_law_356 : decode cL_law 356 = .ok (.iload 4, 2) := by decide +kernel
theorem dL_law_358 : decode cL_law 358 = .ok (.iconst 1, 1) := by decide +kernel
theorem dL_law_359 : decode cL_law 359 = .ok (.iadd, 1) := by decide +kernel
theorem dL_law_360 : decode cL_law 360 = .ok (.iaload, 1) := by decide +kernel
theorem dL_law_361 : decode cL_law 361 = .ok (.aload_n 0, 1) := by decide +kernel
theorem dL_law_362 : decode cL_law 362 = .ok (.iload 4, 2) := by decide +kernel
theorem dL_law_364 : decode cL_law 364 = .ok (.iconst 2, 1) := by decide +kernel
theorem dL_law_365 : decode cL_law 365 = .ok (.iadd, 1) := by decide +kernel
theorem dL_law_366 : decode cL_law 366 = .ok (.iaload, 1) := by decide +kernel
theorem dL_law_367 : decode cL_law 367 = .ok (.aload_n 3, 1) := by decide +kernel
theorem dL_law_368 : decode cL_law 368 = .ok (.invokestatic 156, 3) := by decide +kernel
theorem dL_law_371 : decode cL_law 371 = .ok (.istore 5, 2) := by decide +kernel
theorem dL_law_373 : decode cL_law 373 = .ok (.aload_n 2, 1) := by decide +kernel
theorem dL_law_374 : decode cL_law 374 = .ok (.aload_n 0, 1) := by decide +kernel
theorem dL_law_375 : decode cL_law 375 = .ok (.iload 4, 2) := by decide +kernel
theorem dL_law_377 : decode cL_law 377 = .ok (.iconst 1, 1) := by decide +kernel
theorem dL_law_378 : decode cL_law 378 = .ok (.iadd, 1) := by decide +kernel
theorem dL_law_379 : decode cL_law 379 = .ok (.iaload, 1) := by decide +kernel
theorem dL_law_380 : decode cL_law 380 = .ok (.aload_n 0, 1) := by decide +kernel
theorem dL_law_381 : decode cL_law 381 = .ok (.iload 4, 2) := by decide +kernel
theorem dL_law_383 : decode cL_law 383 = .ok (.iconst 2, 1) := by decide +kernel
theorem dL_law_384 : decode cL_law 384 = .ok (.iadd, 1) := by decide +kernel
theorem dL_law_385 : decode cL_law 385 = .ok (.iaload, 1) := by decide +kernel
theorem dL_law_386 : decode cL_law 386 = .ok (.invokevirtual 159, 3) := by decide +kernel
theorem dL_law_389 : decode cL_law 389 = .ok (.istore 6, 2) := by decide +kernel
theorem dL_law_391 : decode cL_law 391 = .ok (.aload_n 2, 1) := by decide +kernel
theorem dL_law_392 : decode cL_law 392 = .ok (.invokevirtual 144, 3) := by decide +kernel
theorem dL_law_395 : decode cL_law 395 = .ok (.iload 5, 2) := by decide +kernel
theorem dL_law_397 : decode cL_law 397 = .ok (.if_icmp .eq 5, 3) := by decide +kernel
theorem dL_law_400 : decode cL_law 400 = .ok (.iconst 0, 1) := by decide +kernel
theorem dL_law_401 : decode cL_law 401 = .ok (.ireturn, 1) := by decide +kernel
theorem dL_law_402 : decode cL_law 402 = .ok (.iload 5, 2) := by decide +kernel
theorem dL_law_404 : decode cL_law 404 = .ok (.ifCond .ne 15, 3) := by decide +kernel
theorem dL_law_407 : decode cL_law 407 = .ok (.aload_n 3, 1) := by decide +kernel
theorem dL_law_408 : decode cL_law 408 = .ok (.iconst 0, 1) := by decide +kernel
theorem dL_law_409 : decode cL_law 409 = .ok (.laload, 1) := by decide +kernel
theorem dL_law_410 : decode cL_law 410 = .ok (.iload 6, 2) := by decide +kernel
theorem dL_law_412 : decode cL_law 412 = .ok (.i2l, 1) := by decide +kernel
theorem dL_law_413 : decode cL_law 413 = .ok (.lcmp, 1) := by decide +kernel
theorem dL_law_414 : decode cL_law 414 = .ok (.ifCond .eq 5, 3) := by decide +kernel
theorem dL_law_417 : decode cL_law 417 = .ok (.iconst 0, 1) := by decide +kernel
theorem dL_law_418 : decode cL_law 418 = .ok (.ireturn, 1) := by decide +kernel
theorem dL_law_419 : decode cL_law 419 = .ok (.goto 2546, 3) := by decide +kernel
theorem dL_law_422 : decode cL_law 422 = .ok (.aload_n 1, 1) := by decide +kernel
theorem dL_law_423 : decode cL_law 423 = .ok (.aload_n 0, 1) := by decide +kernel
theorem dL_law_424 : decode cL_law 424 = .ok (.iload 4, 2) := by decide +kernel
theorem dL_law_426 : decode cL_law 426 = .ok (.iconst 1, 1) := by decide +kernel
theorem dL_law_427 : decode cL_law 427 = .ok (.iadd, 1) := by decide +kernel
theorem dL_law_428 : decode cL_law 428 = .ok (.iaload, 1) := by decide +kernel
theorem dL_law_429 : decode cL_law 429 = .ok (.aload_n 0, 1) := by decide +kernel
theorem dL_law_430 : decode cL_law 430 = .ok (.iload 4, 2) := by decide +kernel
theorem dL_law_432 : decode cL_law 432 = .ok (.iconst 2, 1) := by decide +kernel
theorem dL_law_433 : decode cL_law 433 = .ok (.iadd, 1) := by decide +kernel
theorem dL_law_434 : decode cL_law 434 = .ok (.iaload, 1) := by decide +kernel
theorem dL_law_435 : decode cL_law 435 = .ok (.aload_n 0, 1) := by decide +kernel
theorem dL_law_436 : decode cL_law 436 = .ok (.iload 4, 2) := by decide +kernel
theorem dL_law_438 : decode cL_law 438 = .ok (.iconst 3, 1) := by decide +kernel
theorem dL_law_439 : decode cL_law 439 = .ok (.iadd, 1) := by decide +kernel
theorem dL_law_440 : decode cL_law 440 = .ok (.iaload, 1) := by decide +kernel
theorem dL_law_441 : decode cL_law 441 = .ok (.aload_n 0, 1) := by decide +kernel
theorem dL_law_442 : decode cL_law 442 = .ok (.iload 4, 2) := by decide +kernel
theorem dL_law_444 : decode cL_law 444 = .ok (.iconst 4, 1) := by decide +kernel
theorem dL_law_445 : decode cL_law 445 = .ok (.iadd, 1) := by decide +kernel
theorem dL_law_446 : decode cL_law 446 = .ok (.iaload, 1) := by decide +kernel
theorem dL_law_447 : decode cL_law 447 = .ok (.aload_n 0, 1) := by decide +kernel
theorem dL_law_448 : decode cL_law 448 = .ok (.iload 4, 2) := by decide +kernel
theorem dL_law_450 : decode cL_law 450 = .ok (.iconst 5, 1) := by decide +kernel
theorem dL_law_451 : decode cL_law 451 = .ok (.iadd, 1) := by decide +kernel
theorem dL_law_452 : decode cL_law 452 = .ok (.iaload, 1) := by decide +kernel
theorem dL_law_453 : decode cL_law 453 = .ok (.aload_n 3, 1) := by decide +kernel
theorem dL_law_454 : decode cL_law 454 = .ok (.invokestatic 160, 3) := by decide +kernel
theorem dL_law_457 : decode cL_law 457 = .ok (.istore 5, 2) := by decide +kernel
theorem dL_law_459 : decode cL_law 459 = .ok (.aload_n 2, 1) := by decide +kernel
theorem dL_law_460 : decode cL_law 460 = .ok (.aload_n 0, 1) := by decide +kernel
theorem dL_law_461 : decode cL_law 461 = .ok (.iload 4, 2) := by decide +kernel
theorem dL_law_463 : decode cL_law 463 = .ok (.iconst 1, 1) := by decide +kernel
theorem dL_law_464 : decode cL_law 464 = .ok (.iadd, 1) := by decide +kernel
theorem dL_law_465 : decode cL_law 465 = .ok (.iaload, 1) := by decide +kernel
theorem dL_law_466 : decode cL_law 466 = .ok (.aload_n 0, 1) := by decide +kernel
theorem dL_law_467 : decode cL_law 467 = .ok (.iload 4, 2) := by decide +kernel
theorem dL_law_469 : decode cL_law 469 = .ok (.iconst 2, 1) := by decide +kernel
theorem dL_law_470 : decode cL_law 470 = .ok (.iadd, 1) := by decide +kernel
theorem dL_law_471 : decode cL_law 471 = .ok (.iaload, 1) := by decide +kernel
theorem dL_law_472 : decode cL_law 472 = .ok (.aload_n 0, 1) := by decide +kernel
theorem dL_law_473 : decode cL_law 473 = .ok (.iload 4, 2) := by decide +kernel
theorem dL_law_475 : decode cL_law 475 = .ok (.iconst 3, 1) := by decide +kernel
theorem dL_law_476 : decode cL_law 476 = .ok (.iadd, 1) := by decide +kernel
theorem dL_law_477 : decode cL_law 477 = .ok (.iaload, 1) := by decide +kernel
theorem dL_law_478 : decode cL_law 478 = .ok (.aload_n 0, 1) := by decide +kernel
theorem dL_law_479 : decode cL_law 479 = .ok (.iload 4, 2) := by decide +kernel
theorem dL_law_481 : decode cL_law 481 = .ok (.iconst 4, 1) := by decide +kernel
theorem dL_law_482 : decode cL_law 482 = .ok (.iadd, 1) := by decide +kernel
theorem dL_law_483 : decode cL_law 483 = .ok (.iaload, 1) := by decide +kernel
theorem dL_law_484 : decode cL_law 484 = .ok (.aload_n 0, 1) := by decide +kernel
theorem dL_law_485 : decode cL_law 485 = .ok (.iload 4, 2) := by decide +kernel
theorem dL_law_487 : decode cL_law 487 = .ok (.iconst 5, 1) := by decide +kernel
theorem dL_law_488 : decode cL_law 488 = .ok (.iadd, 1) := by decide +kernel
theorem dL_law_489 : decode cL_law 489 = .ok (.iaload, 1) := by decide +kernel
theorem dL_law_490 : decode cL_law 490 = .ok (.invokevirtual 163, 3) := by decide +kernel
theorem dL_law_493 : decode cL_law 493 = .ok (.istore 6, 2) := by decide +kernel
theorem dL_law_495 : decode cL_law 495 = .ok (.aload_n 2, 1) := by decide +kernel
theorem dL_law_496 : decode cL_law 496 = .ok (.invokevirtual 144, 3) := by decide +kernel
theorem dL_law_499 : decode cL_law 499 = .ok (.iload 5, 2) := by decide +kernel
theorem dL_law_501 : decode cL_law 501 = .ok (.if_icmp .eq 5, 3) := by decide +kernel
theorem dL_law_504 : decode cL_law 504 = .ok (.iconst 0, 1) := by decide +kernel
theorem dL_law_505 : decode cL_law 505 = .ok (.ireturn, 1) := by decide +kernel
theorem dL_law_506 : decode cL_law 506 = .ok (.iload 5, 2) := by decide +kernel
theorem dL_law_508 : decode cL_law 508 = .ok (.ifCond .ne 15, 3) := by decide +kernel
theorem dL_law_511 : decode cL_law 511 = .ok (.aload_n 3, 1) := by decide +kernel
theorem dL_law_512 : decode cL_law 512 = .ok (.iconst 0, 1) := by decide +kernel
theorem dL_law_513 : decode cL_law 513 = .ok (.laload, 1) := by decide +kernel
theorem dL_law_514 : decode cL_law 514 = .ok (.iload 6, 2) := by decide +kernel
theorem dL_law_516 : decode cL_law 516 = .ok (.i2l, 1) := by decide +kernel
theorem dL_law_517 : decode cL_law 517 = .ok (.lcmp, 1) := by decide +kernel
theorem dL_law_518 : decode cL_law 518 = .ok (.ifCond .eq 5, 3) := by decide +kernel
theorem dL_law_521 : decode cL_law 521 = .ok (.iconst 0, 1) := by decide +kernel
theorem dL_law_522 : decode cL_law 522 = .ok (.ireturn, 1) := by decide +kernel
theorem dL_law_523 : decode cL_law 523 = .ok (.goto 2442, 3) := by decide +kernel
theorem dL_law_526 : decode cL_law 526 = .ok (.aload_n 1, 1) := by decide +kernel
theorem dL_law_527 : decode cL_law 527 = .ok (.aload_n 0, 1) := by decide +kernel
theorem dL_law_528 : decode cL_law 528 = .ok (.iload 4, 2) := by decide +kernel
theorem dL_law_530 : decode cL_law 530 = .ok (.iconst 1, 1) := by decide +kernel
theorem dL_law_531 : decode cL_law 531 = .ok (.iadd, 1) := by decide +kernel
theorem dL_law_532 : decode cL_law 532 = .ok (.iaload, 1) := by decide +kernel
theorem dL_law_533 : decode cL_law 533 = .ok (.aload_n 0, 1) := by decide +kernel
theorem dL_law_534 : decode cL_law 534 = .ok (.iload 4, 2) := by decide +kernel
theorem dL_law_536 : decode cL_law 536 = .ok (.iconst 2, 1) := by decide +kernel
theorem dL_law_537 : decode cL_law 537 = .ok (.iadd, 1) := by decide +kernel
theorem dL_law_538 : decode cL_law 538 = .ok (.iaload, 1) := by decide +kernel
theorem dL_law_539 : decode cL_law 539 = .ok (.aload_n 0, 1) := by decide +kernel
theorem dL_law_540 : decode cL_law 540 = .ok (.iload 4, 2) := by decide +kernel
theorem dL_law_542 : decode cL_law 542 = .ok (.iconst 3, 1) := by decide +kernel
theorem dL_law_543 : decode cL_law 543 = .ok (.iadd, 1) := by decide +kernel
theorem dL_law_544 : decode cL_law 544 = .ok (.iaload, 1) := by decide +kernel
theorem dL_law_545 : decode cL_law 545 = .ok (.aload_n 0, 1) := by decide +kernel
theorem dL_law_546 : decode cL_law 546 = .ok (.iload 4, 2) := by decide +kernel
theorem dL_law_548 : decode cL_law 548 = .ok (.iconst 4, 1) := by decide +kernel
theorem dL_law_549 : decode cL_law 549 = .ok (.iadd, 1) := by decide +kernel
theorem dL_law_550 : decode cL_law 550 = .ok (.iaload, 1) := by decide +kernel
theorem dL_law_551 : decode cL_law 551 = .ok (.aload_n 0, 1) := by decide +kernel
theorem dL_law_552 : decode cL_law 552 = .ok (.iload 4, 2) := by decide +kernel
theorem dL_law_554 : decode cL_law 554 = .ok (.iconst 5, 1) := by decide +kernel
theorem dL_law_555 : decode cL_law 555 = .ok (.iadd, 1) := by decide +kernel
theorem dL_law_556 : decode cL_law 556 = .ok (.iaload, 1) := by decide +kernel
theorem dL_law_557 : decode cL_law 557 = .ok (.aload_n 0, 1) := by decide +kernel
theorem dL_law_558 : decode cL_law 558 = .ok (.iload 4, 2) := by decide +kernel
theorem dL_law_560 : decode cL_law 560 = .ok (.bipush 6, 2) := by decide +kernel
theorem dL_law_562 : decode cL_law 562 = .ok (.iadd, 1) := by decide +kernel
theorem dL_law_563 : decode cL_law 563 = .ok (.iaload, 1) := by decide +kernel
theorem dL_law_564 : decode cL_law 564 = .ok (.aload_n 3, 1) := by decide +kernel
theorem dL_law_565 : decode cL_law 565 = .ok (.invokestatic 164, 3) := by decide +kernel
theorem dL_law_568 : decode cL_law 568 = .ok (.istore 5, 2) := by decide +kernel
theorem dL_law_570 : decode cL_law 570 = .ok (.aload_n 2, 1) := by decide +kernel
theorem dL_law_571 : decode cL_law 571 = .ok (.aload_n 0, 1) := by decide +kernel
theorem dL_law_572 : decode cL_law 572 = .ok (.iload 4, 2) := by decide +kernel
theorem dL_law_574 : decode cL_law 574 = .ok (.iconst 1, 1) := by decide +kernel
theorem dL_law_575 : decode cL_law 575 = .ok (.iadd, 1) := by decide +kernel
theorem dL_law_576 : decode cL_law 576 = .ok (.iaload, 1) := by decide +kernel
theorem dL_law_577 : decode cL_law 577 = .ok (.aload_n 0, 1) := by decide +kernel
theorem dL_law_578 : decode cL_law 578 = .ok (.iload 4, 2) := by decide +kernel
theorem dL_law_580 : decode cL_law 580 = .ok (.iconst 2, 1) := by decide +kernel
theorem dL_law_581 : decode cL_law 581 = .ok (.iadd, 1) := by decide +kernel
theorem dL_law_582 : decode cL_law 582 = .ok (.iaload, 1) := by decide +kernel
theorem dL_law_583 : decode cL_law 583 = .ok (.aload_n 0, 1) := by decide +kernel
theorem dL_law_584 : decode cL_law 584 = .ok (.iload 4, 2) := by decide +kernel
theorem dL_law_586 : decode cL_law 586 = .ok (.iconst 3, 1) := by decide +kernel
theorem dL_law_587 : decode cL_law 587 = .ok (.iadd, 1) := by decide +kernel
theorem dL_law_588 : decode cL_law 588 = .ok (.iaload, 1) := by decide +kernel
theorem dL_law_589 : decode cL_law 589 = .ok (.aload_n 0, 1) := by decide +kernel
theorem dL_law_590 : decode cL_law 590 = .ok (.iload 4, 2) := by decide +kernel
theorem dL_law_592 : decode cL_law 592 = .ok (.iconst 4, 1) := by decide +kernel
theorem dL_law_593 : decode cL_law 593 = .ok (.iadd, 1) := by decide +kernel
theorem dL_law_594 : decode cL_law 594 = .ok (.iaload, 1) := by decide +kernel
theorem dL_law_595 : decode cL_law 595 = .ok (.aload_n 0, 1) := by decide +kernel
theorem dL_law_596 : decode cL_law 596 = .ok (.iload 4, 2) := by decide +kernel
theorem dL_law_598 : decode cL_law 598 = .ok (.iconst 5, 1) := by decide +kernel
theorem dL_law_599 : decode cL_law 599 = .ok (.iadd, 1) := by decide +kernel
theorem dL_law_600 : decode cL_law 600 = .ok (.iaload, 1) := by decide +kernel
theorem dL_law_601 : decode cL_law 601 = .ok (.aload_n 0, 1) := by decide +kernel
theorem dL_law_602 : decode cL_law 602 = .ok (.iload 4, 2) := by decide +kernel
theorem dL_law_604 : decode cL_law 604 = .ok (.bipush 6, 2) := by decide +kernel
theorem dL_law_606 : decode cL_law 606 = .ok (.iadd, 1) := by decide +kernel
theorem dL_law_607 : decode cL_law 607 = .ok (.iaload, 1) := by decide +kernel
theorem dL_law_608 : decode cL_law 608 = .ok (.invokevirtual 167, 3) := by decide +kernel
theorem dL_law_611 : decode cL_law 611 = .ok (.istore 6, 2) := by decide +kernel
theorem dL_law_613 : decode cL_law 613 = .ok (.aload_n 2, 1) := by decide +kernel
theorem dL_law_614 : decode cL_law 614 = .ok (.invokevirtual 144, 3) := by decide +kernel
theorem dL_law_617 : decode cL_law 617 = .ok (.iload 5, 2) := by decide +kernel
theorem dL_law_619 : decode cL_law 619 = .ok (.if_icmp .eq 5, 3) := by decide +kernel
theorem dL_law_622 : decode cL_law 622 = .ok (.iconst 0, 1) := by decide +kernel
theorem dL_law_623 : decode cL_law 623 = .ok (.ireturn, 1) := by decide +kernel
theorem dL_law_624 : decode cL_law 624 = .ok (.iload 5, 2) := by decide +kernel
theorem dL_law_626 : decode cL_law 626 = .ok (.ifCond .ne 15, 3) := by decide +kernel
theorem dL_law_629 : decode cL_law 629 = .ok (.aload_n 3, 1) := by decide +kernel
theorem dL_law_630 : decode cL_law 630 = .ok (.iconst 0, 1) := by decide +kernel
theorem dL_law_631 : decode cL_law 631 = .ok (.laload, 1) := by decide +kernel
theorem dL_law_632 : decode cL_law 632 = .ok (.iload 6, 2) := by decide +kernel
theorem dL_law_634 : decode cL_law 634 = .ok (.i2l, 1) := by decide +kernel
theorem dL_law_635 : decode cL_law 635 = .ok (.lcmp, 1) := by decide +kernel
theorem dL_law_636 : decode cL_law 636 = .ok (.ifCond .eq 5, 3) := by decide +kernel
theorem dL_law_639 : decode cL_law 639 = .ok (.iconst 0, 1) := by decide +kernel
theorem dL_law_640 : decode cL_law 640 = .ok (.ireturn, 1) := by decide +kernel
theorem dL_law_641 : decode cL_law 641 = .ok (.goto 2324, 3) := by decide +kernel
theorem dL_law_644 : decode cL_law 644 = .ok (.aload_n 1, 1) := by decide +kernel
theorem dL_law_645 : decode cL_law 645 = .ok (.aload_n 0, 1) := by decide +kernel
theorem dL_law_646 : decode cL_law 646 = .ok (.iload 4, 2) := by decide +kernel
theorem dL_law_648 : decode cL_law 648 = .ok (.iconst 1, 1) := by decide +kernel
theorem dL_law_649 : decode cL_law 649 = .ok (.iadd, 1) := by decide +kernel
theorem dL_law_650 : decode cL_law 650 = .ok (.iaload, 1) := by decide +kernel
theorem dL_law_651 : decode cL_law 651 = .ok (.aload_n 0, 1) := by decide +kernel
theorem dL_law_652 : decode cL_law 652 = .ok (.iload 4, 2) := by decide +kernel
theorem dL_law_654 : decode cL_law 654 = .ok (.iconst 2, 1) := by decide +kernel
theorem dL_law_655 : decode cL_law 655 = .ok (.iadd, 1) := by decide +kernel
theorem dL_law_656 : decode cL_law 656 = .ok (.iaload, 1) := by decide +kernel
theorem dL_law_657 : decode cL_law 657 = .ok (.aload_n 0, 1) := by decide +kernel
theorem dL_law_658 : decode cL_law 658 = .ok (.iload 4, 2) := by decide +kernel
theorem dL_law_660 : decode cL_law 660 = .ok (.iconst 3, 1) := by decide +kernel
theorem dL_law_661 : decode cL_law 661 = .ok (.iadd, 1) := by decide +kernel
theorem dL_law_662 : decode cL_law 662 = .ok (.iaload, 1) := by decide +kernel
theorem dL_law_663 : decode cL_law 663 = .ok (.aload_n 3, 1) := by decide +kernel
theorem dL_law_664 : decode cL_law 664 = .ok (.invokestatic 168, 3) := by decide +kernel
theorem dL_law_667 : decode cL_law 667 = .ok (.istore 5, 2) := by decide +kernel
theorem dL_law_669 : decode cL_law 669 = .ok (.aload_n 2, 1) := by decide +kernel
theorem dL_law_670 : decode cL_law 670 = .ok (.aload_n 0, 1) := by decide +kernel
theorem dL_law_671 : decode cL_law 671 = .ok (.iload 4, 2) := by decide +kernel
theorem dL_law_673 : decode cL_law 673 = .ok (.iconst 1, 1) := by decide +kernel
theorem dL_law_674 : decode cL_law 674 = .ok (.iadd, 1) := by decide +kernel
theorem dL_law_675 : decode cL_law 675 = .ok (.iaload, 1) := by decide +kernel
theorem dL_law_676 : decode cL_law 676 = .ok (.aload_n 0, 1) := by decide +kernel
theorem dL_law_677 : decode cL_law 677 = .ok (.iload 4, 2) := by decide +kernel
theorem dL_law_679 : decode cL_law 679 = .ok (.iconst 2, 1) := by decide +kernel
theorem dL_law_680 : decode cL_law 680 = .ok (.iadd, 1) := by decide +kernel
theorem dL_law_681 : decode cL_law 681 = .ok (.iaload, 1) := by decide +kernel
theorem dL_law_682 : decode cL_law 682 = .ok (.aload_n 0, 1) := by decide +kernel
theorem dL_law_683 : decode cL_law 683 = .ok (.iload 4, 2) := by decide +kernel
theorem dL_law_685 : decode cL_law 685 = .ok (.iconst 3, 1) := by decide +kernel
theorem dL_law_686 : decode cL_law 686 = .ok (.iadd, 1) := by decide +kernel
theorem dL_law_687 : decode cL_law 687 = .ok (.iaload, 1) := by decide +kernel
theorem dL_law_688 : decode cL_law 688 = .ok (.invokevirtual 171, 3) := by decide +kernel
theorem dL_law_691 : decode cL_law 691 = .ok (.istore 6, 2) := by decide +kernel
theorem dL_law_693 : decode cL_law 693 = .ok (.aload_n 2, 1) := by decide +kernel
theorem dL_law_694 : decode cL_law 694 = .ok (.invokevirtual 144, 3) := by decide +kernel
theorem dL_law_697 : decode cL_law 697 = .ok (.iload 5, 2) := by decide +kernel
theorem dL_law_699 : decode cL_law 699 = .ok (.if_icmp .eq 5, 3) := by decide +kernel
theorem dL_law_702 : decode cL_law 702 = .ok (.iconst 0, 1) := by decide +kernel
theorem dL_law_703 : decode cL_law 703 = .ok (.ireturn, 1) := by decide +kernel
theorem dL_law_704 : decode cL_law 704 = .ok (.iload 5, 2) := by decide +kernel
theorem dL_law_706 : decode cL_law 706 = .ok (.ifCond .ne 15, 3) := by decide +kernel
theorem dL_law_709 : decode cL_law 709 = .ok (.aload_n 3, 1) := by decide +kernel
theorem dL_law_710 : decode cL_law 710 = .ok (.iconst 0, 1) := by decide +kernel
theorem dL_law_711 : decode cL_law 711 = .ok (.laload, 1) := by decide +kernel
theorem dL_law_712 : decode cL_law 712 = .ok (.iload 6, 2) := by decide +kernel
theorem dL_law_714 : decode cL_law 714 = .ok (.i2l, 1) := by decide +kernel
theorem dL_law_715 : decode cL_law 715 = .ok (.lcmp, 1) := by decide +kernel
theorem dL_law_716 : decode cL_law 716 = .ok (.ifCond .eq 5, 3) := by decide +kernel
theorem dL_law_719 : decode cL_law 719 = .ok (.iconst 0, 1) := by decide +kernel
theorem dL_law_720 : decode cL_law 720 = .ok (.ireturn, 1) := by decide +kernel
theorem dL_law_721 : decode cL_law 721 = .ok (.goto 2244, 3) := by decide +kernel
theorem dL_law_724 : decode cL_law 724 = .ok (.aload_n 1, 1) := by decide +kernel
theorem dL_law_725 : decode cL_law 725 = .ok (.aload_n 0, 1) := by decide +kernel
theorem dL_law_726 : decode cL_law 726 = .ok (.iload 4, 2) := by decide +kernel
theorem dL_law_728 : decode cL_law 728 = .ok (.iconst 1, 1) := by decide +kernel
theorem dL_law_729 : decode cL_law 729 = .ok (.iadd, 1) := by decide +kernel
theorem dL_law_730 : decode cL_law 730 = .ok (.iaload, 1) := by decide +kernel
theorem dL_law_731 : decode cL_law 731 = .ok (.aload_n 0, 1) := by decide +kernel
theorem dL_law_732 : decode cL_law 732 = .ok (.iload 4, 2) := by decide +kernel
theorem dL_law_734 : decode cL_law 734 = .ok (.iconst 2, 1) := by decide +kernel
theorem dL_law_735 : decode cL_law 735 = .ok (.iadd, 1) := by decide +kernel
theorem dL_law_736 : decode cL_law 736 = .ok (.iaload, 1) := by decide +kernel
theorem dL_law_737 : decode cL_law 737 = .ok (.aload_n 0, 1) := by decide +kernel
theorem dL_law_738 : decode cL_law 738 = .ok (.iload 4, 2) := by decide +kernel
theorem dL_law_740 : decode cL_law 740 = .ok (.iconst 3, 1) := by decide +kernel
theorem dL_law_741 : decode cL_law 741 = .ok (.iadd, 1) := by decide +kernel
theorem dL_law_742 : decode cL_law 742 = .ok (.iaload, 1) := by decide +kernel
theorem dL_law_743 : decode cL_law 743 = .ok (.aload_n 0, 1) := by decide +kernel
theorem dL_law_744 : decode cL_law 744 = .ok (.iload 4, 2) := by decide +kernel
theorem dL_law_746 : decode cL_law 746 = .ok (.iconst 4, 1) := by decide +kernel
theorem dL_law_747 : decode cL_law 747 = .ok (.iadd, 1) := by decide +kernel
theorem dL_law_748 : decode cL_law 748 = .ok (.iaload, 1) := by decide +kernel
theorem dL_law_749 : decode cL_law 749 = .ok (.aload_n 3, 1) := by decide +kernel
theorem dL_law_750 : decode cL_law 750 = .ok (.invokestatic 172, 3) := by decide +kernel
theorem dL_law_753 : decode cL_law 753 = .ok (.istore 5, 2) := by decide +kernel
theorem dL_law_755 : decode cL_law 755 = .ok (.aload_n 2, 1) := by decide +kernel
theorem dL_law_756 : decode cL_law 756 = .ok (.aload_n 0, 1) := by decide +kernel
theorem dL_law_757 : decode cL_law 757 = .ok (.iload 4, 2) := by decide +kernel
theorem dL_law_759 : decode cL_law 759 = .ok (.iconst 1, 1) := by decide +kernel
theorem dL_law_760 : decode cL_law 760 = .ok (.iadd, 1) := by decide +kernel
theorem dL_law_761 : decode cL_law 761 = .ok (.iaload, 1) := by decide +kernel
theorem dL_law_762 : decode cL_law 762 = .ok (.aload_n 0, 1) := by decide +kernel
theorem dL_law_763 : decode cL_law 763 = .ok (.iload 4, 2) := by decide +kernel
theorem dL_law_765 : decode cL_law 765 = .ok (.iconst 2, 1) := by decide +kernel
theorem dL_law_766 : decode cL_law 766 = .ok (.iadd, 1) := by decide +kernel
theorem dL_law_767 : decode cL_law 767 = .ok (.iaload, 1) := by decide +kernel
theorem dL_law_768 : decode cL_law 768 = .ok (.aload_n 0, 1) := by decide +kernel
theorem dL_law_769 : decode cL_law 769 = .ok (.iload 4, 2) := by decide +kernel
theorem dL_law_771 : decode cL_law 771 = .ok (.iconst 3, 1) := by decide +kernel
theorem dL_law_772 : decode cL_law 772 = .ok (.iadd, 1) := by decide +kernel
theorem dL_law_773 : decode cL_law 773 = .ok (.iaload, 1) := by decide +kernel
theorem dL_law_774 : decode cL_law 774 = .ok (.aload_n 0, 1) := by decide +kernel
theorem dL_law_775 : decode cL_law 775 = .ok (.iload 4, 2) := by decide +kernel
theorem dL_law_777 : decode cL_law 777 = .ok (.iconst 4, 1) := by decide +kernel
theorem dL_law_778 : decode cL_law 778 = .ok (.iadd, 1) := by decide +kernel
theorem dL_law_779 : decode cL_law 779 = .ok (.iaload, 1) := by decide +kernel
theorem dL_law_780 : decode cL_law 780 = .ok (.invokevirtual 175, 3) := by decide +kernel
theorem dL_law_783 : decode cL_law 783 = .ok (.istore 6, 2) := by decide +kernel
theorem dL_law_785 : decode cL_law 785 = .ok (.aload_n 2, 1) := by decide +kernel
theorem dL_law_786 : decode cL_law 786 = .ok (.invokevirtual 144, 3) := by decide +kernel
theorem dL_law_789 : decode cL_law 789 = .ok (.iload 5, 2) := by decide +kernel
theorem dL_law_791 : decode cL_law 791 = .ok (.if_icmp .eq 5, 3) := by decide +kernel
theorem dL_law_794 : decode cL_law 794 = .ok (.iconst 0, 1) := by decide +kernel
theorem dL_law_795 : decode cL_law 795 = .ok (.ireturn, 1) := by decide +kernel
theorem dL_law_796 : decode cL_law 796 = .ok (.iload 5, 2) := by decide +kernel
theorem dL_law_798 : decode cL_law 798 = .ok (.ifCond .ne 15, 3) := by decide +kernel
theorem dL_law_801 : decode cL_law 801 = .ok (.aload_n 3, 1) := by decide +kernel
theorem dL_law_802 : decode cL_law 802 = .ok (.iconst 0, 1) := by decide +kernel
theorem dL_law_803 : decode cL_law 803 = .ok (.laload, 1) := by decide +kernel
theorem dL_law_804 : decode cL_law 804 = .ok (.iload 6, 2) := by decide +kernel
theorem dL_law_806 : decode cL_law 806 = .ok (.i2l, 1) := by decide +kernel
theorem dL_law_807 : decode cL_law 807 = .ok (.lcmp, 1) := by decide +kernel
theorem dL_law_808 : decode cL_law 808 = .ok (.ifCond .eq 5, 3) := by decide +kernel
theorem dL_law_811 : decode cL_law 811 = .ok (.iconst 0, 1) := by decide +kernel
theorem dL_law_812 : decode cL_law 812 = .ok (.ireturn, 1) := by decide +kernel
theorem dL_law_813 : decode cL_law 813 = .ok (.goto 2152, 3) := by decide +kernel
theorem dL_law_816 : decode cL_law 816 = .ok (.aload_n 1, 1) := by decide +kernel
theorem dL_law_817 : decode cL_law 817 = .ok (.aload_n 0, 1) := by decide +kernel
theorem dL_law_818 : decode cL_law 818 = .ok (.iload 4, 2) := by decide +kernel
theorem dL_law_820 : decode cL_law 820 = .ok (.iconst 1, 1) := by decide +kernel
theorem dL_law_821 : decode cL_law 821 = .ok (.iadd, 1) := by decide +kernel
theorem dL_law_822 : decode cL_law 822 = .ok (.iaload, 1) := by decide +kernel
theorem dL_law_823 : decode cL_law 823 = .ok (.aload_n 0, 1) := by decide +kernel
theorem dL_law_824 : decode cL_law 824 = .ok (.iload 4, 2) := by decide +kernel
theorem dL_law_826 : decode cL_law 826 = .ok (.iconst 2, 1) := by decide +kernel
theorem dL_law_827 : decode cL_law 827 = .ok (.iadd, 1) := by decide +kernel
theorem dL_law_828 : decode cL_law 828 = .ok (.iaload, 1) := by decide +kernel
theorem dL_law_829 : decode cL_law 829 = .ok (.aload_n 0, 1) := by decide +kernel
theorem dL_law_830 : decode cL_law 830 = .ok (.iload 4, 2) := by decide +kernel
theorem dL_law_832 : decode cL_law 832 = .ok (.iconst 3, 1) := by decide +kernel
theorem dL_law_833 : decode cL_law 833 = .ok (.iadd, 1) := by decide +kernel
theorem dL_law_834 : decode cL_law 834 = .ok (.iaload, 1) := by decide +kernel
theorem dL_law_835 : decode cL_law 835 = .ok (.ifCond .eq 7, 3) := by decide +kernel
theorem dL_law_838 : decode cL_law 838 = .ok (.iconst 1, 1) := by decide +kernel
theorem dL_law_839 : decode cL_law 839 = .ok (.goto 4, 3) := by decide +kernel
theorem dL_law_842 : decode cL_law 842 = .ok (.iconst 0, 1) := by decide +kernel
theorem dL_law_843 : decode cL_law 843 = .ok (.aload_n 3, 1) := by decide +kernel
theorem dL_law_844 : decode cL_law 844 = .ok (.invokestatic 176, 3) := by decide +kernel
theorem dL_law_847 : decode cL_law 847 = .ok (.istore 5, 2) := by decide +kernel
theorem dL_law_849 : decode cL_law 849 = .ok (.aload_n 2, 1) := by decide +kernel
theorem dL_law_850 : decode cL_law 850 = .ok (.aload_n 0, 1) := by decide +kernel
theorem dL_law_851 : decode cL_law 851 = .ok (.iload 4, 2) := by decide +kernel
theorem dL_law_853 : decode cL_law 853 = .ok (.iconst 1, 1) := by decide +kernel
theorem dL_law_854 : decode cL_law 854 = .ok (.iadd, 1) := by decide +kernel
theorem dL_law_855 : decode cL_law 855 = .ok (.iaload, 1) := by decide +kernel
theorem dL_law_856 : decode cL_law 856 = .ok (.aload_n 0, 1) := by decide +kernel
theorem dL_law_857 : decode cL_law 857 = .ok (.iload 4, 2) := by decide +kernel
theorem dL_law_859 : decode cL_law 859 = .ok (.iconst 2, 1) := by decide +kernel
theorem dL_law_860 : decode cL_law 860 = .ok (.iadd, 1) := by decide +kernel
theorem dL_law_861 : decode cL_law 861 = .ok (.iaload, 1) := by decide +kernel
theorem dL_law_862 : decode cL_law 862 = .ok (.aload_n 0, 1) := by decide +kernel
theorem dL_law_863 : decode cL_law 863 = .ok (.iload 4, 2) := by decide +kernel
theorem dL_law_865 : decode cL_law 865 = .ok (.iconst 3, 1) := by decide +kernel
theorem dL_law_866 : decode cL_law 866 = .ok (.iadd, 1) := by decide +kernel
theorem dL_law_867 : decode cL_law 867 = .ok (.iaload, 1) := by decide +kernel
theorem dL_law_868 : decode cL_law 868 = .ok (.ifCond .eq 7, 3) := by decide +kernel
theorem dL_law_871 : decode cL_law 871 = .ok (.iconst 1, 1) := by decide +kernel
theorem dL_law_872 : decode cL_law 872 = .ok (.goto 4, 3) := by decide +kernel
theorem dL_law_875 : decode cL_law 875 = .ok (.iconst 0, 1) := by decide +kernel
theorem dL_law_876 : decode cL_law 876 = .ok (.invokevirtual 179, 3) := by decide +kernel
theorem dL_law_879 : decode cL_law 879 = .ok (.istore 6, 2) := by decide +kernel
theorem dL_law_881 : decode cL_law 881 = .ok (.aload_n 2, 1) := by decide +kernel
theorem dL_law_882 : decode cL_law 882 = .ok (.invokevirtual 144, 3) := by decide +kernel
theorem dL_law_885 : decode cL_law 885 = .ok (.iload 5, 2) := by decide +kernel
theorem dL_law_887 : decode cL_law 887 = .ok (.if_icmp .eq 5, 3) := by decide +kernel
theorem dL_law_890 : decode cL_law 890 = .ok (.iconst 0, 1) := by decide +kernel
theorem dL_law_891 : decode cL_law 891 = .ok (.ireturn, 1) := by decide +kernel
theorem dL_law_892 : decode cL_law 892 = .ok (.iload 5, 2) := by decide +kernel
theorem dL_law_894 : decode cL_law 894 = .ok (.ifCond .ne 22, 3) := by decide +kernel
theorem dL_law_897 : decode cL_law 897 = .ok (.aload_n 3, 1) := by decide +kernel
theorem dL_law_898 : decode cL_law 898 = .ok (.iconst 0, 1) := by decide +kernel
theorem dL_law_899 : decode cL_law 899 = .ok (.laload, 1) := by decide +kernel
theorem dL_law_900 : decode cL_law 900 = .ok (.iload 6, 2) := by decide +kernel
theorem dL_law_902 : decode cL_law 902 = .ok (.ifCond .eq 7, 3) := by decide +kernel
theorem dL_law_905 : decode cL_law 905 = .ok (.lconst 1, 1) := by decide +kernel
theorem dL_law_906 : decode cL_law 906 = .ok (.goto 4, 3) := by decide +kernel
theorem dL_law_909 : decode cL_law 909 = .ok (.lconst 0, 1) := by decide +kernel
theorem dL_law_910 : decode cL_law 910 = .ok (.lcmp, 1) := by decide +kernel
theorem dL_law_911 : decode cL_law 911 = .ok (.ifCond .eq 5, 3) := by decide +kernel
theorem dL_law_914 : decode cL_law 914 = .ok (.iconst 0, 1) := by decide +kernel
theorem dL_law_915 : decode cL_law 915 = .ok (.ireturn, 1) := by decide +kernel
theorem dL_law_916 : decode cL_law 916 = .ok (.goto 2049, 3) := by decide +kernel
theorem dL_law_919 : decode cL_law 919 = .ok (.aload_n 1, 1) := by decide +kernel
theorem dL_law_920 : decode cL_law 920 = .ok (.aload_n 0, 1) := by decide +kernel
theorem dL_law_921 : decode cL_law 921 = .ok (.iload 4, 2) := by decide +kernel
theorem dL_law_923 : decode cL_law 923 = .ok (.iconst 1, 1) := by decide +kernel
theorem dL_law_924 : decode cL_law 924 = .ok (.iadd, 1) := by decide +kernel
theorem dL_law_925 : decode cL_law 925 = .ok (.iaload, 1) := by decide +kernel
theorem dL_law_926 : decode cL_law 926 = .ok (.aload_n 0, 1) := by decide +kernel
theorem dL_law_927 : decode cL_law 927 = .ok (.iload 4, 2) := by decide +kernel
theorem dL_law_929 : decode cL_law 929 = .ok (.iconst 2, 1) := by decide +kernel
theorem dL_law_930 : decode cL_law 930 = .ok (.iadd, 1) := by decide +kernel
theorem dL_law_931 : decode cL_law 931 = .ok (.iaload, 1) := by decide +kernel
theorem dL_law_932 : decode cL_law 932 = .ok (.aload_n 0, 1) := by decide +kernel
theorem dL_law_933 : decode cL_law 933 = .ok (.iload 4, 2) := by decide +kernel
theorem dL_law_935 : decode cL_law 935 = .ok (.iconst 3, 1) := by decide +kernel
theorem dL_law_936 : decode cL_law 936 = .ok (.iadd, 1) := by decide +kernel
theorem dL_law_937 : decode cL_law 937 = .ok (.iaload, 1) := by decide +kernel
theorem dL_law_938 : decode cL_law 938 = .ok (.aload_n 3, 1) := by decide +kernel
theorem dL_law_939 : decode cL_law 939 = .ok (.invokestatic 180, 3) := by decide +kernel
theorem dL_law_942 : decode cL_law 942 = .ok (.istore 5, 2) := by decide +kernel
theorem dL_law_944 : decode cL_law 944 = .ok (.aload_n 2, 1) := by decide +kernel
theorem dL_law_945 : decode cL_law 945 = .ok (.aload_n 0, 1) := by decide +kernel
theorem dL_law_946 : decode cL_law 946 = .ok (.iload 4, 2) := by decide +kernel
theorem dL_law_948 : decode cL_law 948 = .ok (.iconst 1, 1) := by decide +kernel
theorem dL_law_949 : decode cL_law 949 = .ok (.iadd, 1) := by decide +kernel
theorem dL_law_950 : decode cL_law 950 = .ok (.iaload, 1) := by decide +kernel
theorem dL_law_951 : decode cL_law 951 = .ok (.aload_n 0, 1) := by decide +kernel
theorem dL_law_952 : decode cL_law 952 = .ok (.iload 4, 2) := by decide +kernel
theorem dL_law_954 : decode cL_law 954 = .ok (.iconst 2, 1) := by decide +kernel
theorem dL_law_955 : decode cL_law 955 = .ok (.iadd, 1) := by decide +kernel
theorem dL_law_956 : decode cL_law 956 = .ok (.iaload, 1) := by decide +kernel
theorem dL_law_957 : decode cL_law 957 = .ok (.aload_n 0, 1) := by decide +kernel
theorem dL_law_958 : decode cL_law 958 = .ok (.iload 4, 2) := by decide +kernel
theorem dL_law_960 : decode cL_law 960 = .ok (.iconst 3, 1) := by decide +kernel
theorem dL_law_961 : decode cL_law 961 = .ok (.iadd, 1) := by decide +kernel
theorem dL_law_962 : decode cL_law 962 = .ok (.iaload, 1) := by decide +kernel
theorem dL_law_963 : decode cL_law 963 = .ok (.invokevirtual 182, 3) := by decide +kernel
theorem dL_law_966 : decode cL_law 966 = .ok (.istore 6, 2) := by decide +kernel
theorem dL_law_968 : decode cL_law 968 = .ok (.aload_n 2, 1) := by decide +kernel
theorem dL_law_969 : decode cL_law 969 = .ok (.invokevirtual 144, 3) := by decide +kernel
theorem dL_law_972 : decode cL_law 972 = .ok (.iload 5, 2) := by decide +kernel
theorem dL_law_974 : decode cL_law 974 = .ok (.if_icmp .eq 5, 3) := by decide +kernel
theorem dL_law_977 : decode cL_law 977 = .ok (.iconst 0, 1) := by decide +kernel
theorem dL_law_978 : decode cL_law 978 = .ok (.ireturn, 1) := by decide +kernel
theorem dL_law_979 : decode cL_law 979 = .ok (.iload 5, 2) := by decide +kernel
theorem dL_law_981 : decode cL_law 981 = .ok (.ifCond .ne 15, 3) := by decide +kernel
theorem dL_law_984 : decode cL_law 984 = .ok (.aload_n 3, 1) := by decide +kernel
theorem dL_law_985 : decode cL_law 985 = .ok (.iconst 0, 1) := by decide +kernel
theorem dL_law_986 : decode cL_law 986 = .ok (.laload, 1) := by decide +kernel
theorem dL_law_987 : decode cL_law 987 = .ok (.iload 6, 2) := by decide +kernel
theorem dL_law_989 : decode cL_law 989 = .ok (.i2l, 1) := by decide +kernel
theorem dL_law_990 : decode cL_law 990 = .ok (.lcmp, 1) := by decide +kernel
theorem dL_law_991 : decode cL_law 991 = .ok (.ifCond .eq 5, 3) := by decide +kernel
theorem dL_law_994 : decode cL_law 994 = .ok (.iconst 0, 1) := by decide +kernel
theorem dL_law_995 : decode cL_law 995 = .ok (.ireturn, 1) := by decide +kernel
theorem dL_law_996 : decode cL_law 996 = .ok (.goto 1969, 3) := by decide +kernel
theorem dL_law_999 : decode cL_law 999 = .ok (.aload_n 1, 1) := by decide +kernel
theorem dL_law_1000 : decode cL_law 1000 = .ok (.aload_n 0, 1) := by decide +kernel
theorem dL_law_1001 : decode cL_law 1001 = .ok (.iload 4, 2) := by decide +kernel
theorem dL_law_1003 : decode cL_law 1003 = .ok (.iconst 1, 1) := by decide +kernel
theorem dL_law_1004 : decode cL_law 1004 = .ok (.iadd, 1) := by decide +kernel
theorem dL_law_1005 : decode cL_law 1005 = .ok (.iaload, 1) := by decide +kernel
theorem dL_law_1006 : decode cL_law 1006 = .ok (.aload_n 3, 1) := by decide +kernel
theorem dL_law_1007 : decode cL_law 1007 = .ok (.invokestatic 183, 3) := by decide +kernel
theorem dL_law_1010 : decode cL_law 1010 = .ok (.istore 5, 2) := by decide +kernel
theorem dL_law_1012 : decode cL_law 1012 = .ok (.aload_n 2, 1) := by decide +kernel
theorem dL_law_1013 : decode cL_law 1013 = .ok (.aload_n 0, 1) := by decide +kernel
theorem dL_law_1014 : decode cL_law 1014 = .ok (.iload 4, 2) := by decide +kernel
theorem dL_law_1016 : decode cL_law 1016 = .ok (.iconst 1, 1) := by decide +kernel
theorem dL_law_1017 : decode cL_law 1017 = .ok (.iadd, 1) := by decide +kernel
theorem dL_law_1018 : decode cL_law 1018 = .ok (.iaload, 1) := by decide +kernel
theorem dL_law_1019 : decode cL_law 1019 = .ok (.invokevirtual 186, 3) := by decide +kernel
theorem dL_law_1022 : decode cL_law 1022 = .ok (.istore 6, 2) := by decide +kernel
theorem dL_law_1024 : decode cL_law 1024 = .ok (.aload_n 2, 1) := by decide +kernel
theorem dL_law_1025 : decode cL_law 1025 = .ok (.invokevirtual 144, 3) := by decide +kernel
theorem dL_law_1028 : decode cL_law 1028 = .ok (.iload 5, 2) := by decide +kernel
theorem dL_law_1030 : decode cL_law 1030 = .ok (.if_icmp .eq 5, 3) := by decide +kernel
theorem dL_law_1033 : decode cL_law 1033 = .ok (.iconst 0, 1) := by decide +kernel
theorem dL_law_1034 : decode cL_law 1034 = .ok (.ireturn, 1) := by decide +kernel
theorem dL_law_1035 : decode cL_law 1035 = .ok (.iload 5, 2) := by decide +kernel
theorem dL_law_1037 : decode cL_law 1037 = .ok (.ifCond .ne 15, 3) := by decide +kernel
theorem dL_law_1040 : decode cL_law 1040 = .ok (.aload_n 3, 1) := by decide +kernel
theorem dL_law_1041 : decode cL_law 1041 = .ok (.iconst 0, 1) := by decide +kernel
theorem dL_law_1042 : decode cL_law 1042 = .ok (.laload, 1) := by decide +kernel
theorem dL_law_1043 : decode cL_law 1043 = .ok (.iload 6, 2) := by decide +kernel
theorem dL_law_1045 : decode cL_law 1045 = .ok (.i2l, 1) := by decide +kernel
theorem dL_law_1046 : decode cL_law 1046 = .ok (.lcmp, 1) := by decide +kernel
theorem dL_law_1047 : decode cL_law 1047 = .ok (.ifCond .eq 5, 3) := by decide +kernel
theorem dL_law_1050 : decode cL_law 1050 = .ok (.iconst 0, 1) := by decide +kernel
theorem dL_law_1051 : decode cL_law 1051 = .ok (.ireturn, 1) := by decide +kernel
theorem dL_law_1052 : decode cL_law 1052 = .ok (.goto 1913, 3) := by decide +kernel
theorem dL_law_1055 : decode cL_law 1055 = .ok (.aload_n 1, 1) := by decide +kernel
theorem dL_law_1056 : decode cL_law 1056 = .ok (.aload_n 0, 1) := by decide +kernel
theorem dL_law_1057 : decode cL_law 1057 = .ok (.iload 4, 2) := by decide +kernel
theorem dL_law_1059 : decode cL_law 1059 = .ok (.iconst 1, 1) := by decide +kernel
theorem dL_law_1060 : decode cL_law 1060 = .ok (.iadd, 1) := by decide +kernel
theorem dL_law_1061 : decode cL_law 1061 = .ok (.iaload, 1) := by decide +kernel
theorem dL_law_1062 : decode cL_law 1062 = .ok (.aload_n 0, 1) := by decide +kernel
theorem dL_law_1063 : decode cL_law 1063 = .ok (.iload 4, 2) := by decide +kernel
theorem dL_law_1065 : decode cL_law 1065 = .ok (.iconst 2, 1) := by decide +kernel
theorem dL_law_1066 : decode cL_law 1066 = .ok (.iadd, 1) := by decide +kernel
theorem dL_law_1067 : decode cL_law 1067 = .ok (.iaload, 1) := by decide +kernel
theorem dL_law_1068 : decode cL_law 1068 = .ok (.aload_n 3, 1) := by decide +kernel
theorem dL_law_1069 : decode cL_law 1069 = .ok (.invokestatic 187, 3) := by decide +kernel
theorem dL_law_1072 : decode cL_law 1072 = .ok (.istore 5, 2) := by decide +kernel
theorem dL_law_1074 : decode cL_law 1074 = .ok (.aload_n 2, 1) := by decide +kernel
theorem dL_law_1075 : decode cL_law 1075 = .ok (.aload_n 0, 1) := by decide +kernel
theorem dL_law_1076 : decode cL_law 1076 = .ok (.iload 4, 2) := by decide +kernel
theorem dL_law_1078 : decode cL_law 1078 = .ok (.iconst 1, 1) := by decide +kernel
theorem dL_law_1079 : decode cL_law 1079 = .ok (.iadd, 1) := by decide +kernel
theorem dL_law_1080 : decode cL_law 1080 = .ok (.iaload, 1) := by decide +kernel
theorem dL_law_1081 : decode cL_law 1081 = .ok (.aload_n 0, 1) := by decide +kernel
theorem dL_law_1082 : decode cL_law 1082 = .ok (.iload 4, 2) := by decide +kernel
theorem dL_law_1084 : decode cL_law 1084 = .ok (.iconst 2, 1) := by decide +kernel
theorem dL_law_1085 : decode cL_law 1085 = .ok (.iadd, 1) := by decide +kernel
theorem dL_law_1086 : decode cL_law 1086 = .ok (.iaload, 1) := by decide +kernel
theorem dL_law_1087 : decode cL_law 1087 = .ok (.invokevirtual 189, 3) := by decide +kernel
theorem dL_law_1090 : decode cL_law 1090 = .ok (.istore 6, 2) := by decide +kernel
theorem dL_law_1092 : decode cL_law 1092 = .ok (.aload_n 2, 1) := by decide +kernel
theorem dL_law_1093 : decode cL_law 1093 = .ok (.invokevirtual 144, 3) := by decide +kernel
theorem dL_law_1096 : decode cL_law 1096 = .ok (.iload 5, 2) := by decide +kernel
theorem dL_law_1098 : decode cL_law 1098 = .ok (.if_icmp .eq 5, 3) := by decide +kernel
theorem dL_law_1101 : decode cL_law 1101 = .ok (.iconst 0, 1) := by decide +kernel
theorem dL_law_1102 : decode cL_law 1102 = .ok (.ireturn, 1) := by decide +kernel
theorem dL_law_1103 : decode cL_law 1103 = .ok (.iload 5, 2) := by decide +kernel
theorem dL_law_1105 : decode cL_law 1105 = .ok (.ifCond .ne 15, 3) := by decide +kernel
theorem dL_law_1108 : decode cL_law 1108 = .ok (.aload_n 3, 1) := by decide +kernel
theorem dL_law_1109 : decode cL_law 1109 = .ok (.iconst 0, 1) := by decide +kernel
theorem dL_law_1110 : decode cL_law 1110 = .ok (.laload, 1) := by decide +kernel
theorem dL_law_1111 : decode cL_law 1111 = .ok (.iload 6, 2) := by decide +kernel
theorem dL_law_1113 : decode cL_law 1113 = .ok (.i2l, 1) := by decide +kernel
theorem dL_law_1114 : decode cL_law 1114 = .ok (.lcmp, 1) := by decide +kernel
theorem dL_law_1115 : decode cL_law 1115 = .ok (.ifCond .eq 5, 3) := by decide +kernel
theorem dL_law_1118 : decode cL_law 1118 = .ok (.iconst 0, 1) := by decide +kernel
theorem dL_law_1119 : decode cL_law 1119 = .ok (.ireturn, 1) := by decide +kernel
theorem dL_law_1120 : decode cL_law 1120 = .ok (.goto 1845, 3) := by decide +kernel
theorem dL_law_1123 : decode cL_law 1123 = .ok (.aload_n 1, 1) := by decide +kernel
theorem dL_law_1124 : decode cL_law 1124 = .ok (.invokevirtual 190, 3) := by decide +kernel
theorem dL_law_1127 : decode cL_law 1127 = .ok (.aload_n 2, 1) := by decide +kernel
theorem dL_law_1128 : decode cL_law 1128 = .ok (.invokevirtual 193, 3) := by decide +kernel
theorem dL_law_1131 : decode cL_law 1131 = .ok (.if_icmp .eq 1834, 3) := by decide +kernel
theorem dL_law_1134 : decode cL_law 1134 = .ok (.iconst 0, 1) := by decide +kernel
theorem dL_law_1135 : decode cL_law 1135 = .ok (.ireturn, 1) := by decide +kernel
theorem dL_law_1136 : decode cL_law 1136 = .ok (.aload_n 1, 1) := by decide +kernel
theorem dL_law_1137 : decode cL_law 1137 = .ok (.aload_n 0, 1) := by decide +kernel
theorem dL_law_1138 : decode cL_law 1138 = .ok (.iload 4, 2) := by decide +kernel
theorem dL_law_1140 : decode cL_law 1140 = .ok (.iconst 1, 1) := by decide +kernel
theorem dL_law_1141 : decode cL_law 1141 = .ok (.iadd, 1) := by decide +kernel
theorem dL_law_1142 : decode cL_law 1142 = .ok (.iaload, 1) := by decide +kernel
theorem dL_law_1143 : decode cL_law 1143 = .ok (.aload_n 3, 1) := by decide +kernel
theorem dL_law_1144 : decode cL_law 1144 = .ok (.invokestatic 194, 3) := by decide +kernel
theorem dL_law_1147 : decode cL_law 1147 = .ok (.istore 5, 2) := by decide +kernel
theorem dL_law_1149 : decode cL_law 1149 = .ok (.aload_n 2, 1) := by decide +kernel
theorem dL_law_1150 : decode cL_law 1150 = .ok (.aload_n 0, 1) := by decide +kernel
theorem dL_law_1151 : decode cL_law 1151 = .ok (.iload 4, 2) := by decide +kernel
theorem dL_law_1153 : decode cL_law 1153 = .ok (.iconst 1, 1) := by decide +kernel
theorem dL_law_1154 : decode cL_law 1154 = .ok (.iadd, 1) := by decide +kernel
theorem dL_law_1155 : decode cL_law 1155 = .ok (.iaload, 1) := by decide +kernel
theorem dL_law_1156 : decode cL_law 1156 = .ok (.invokevirtual 196, 3) := by decide +kernel
theorem dL_law_1159 : decode cL_law 1159 = .ok (.istore 6, 2) := by decide +kernel
theorem dL_law_1161 : decode cL_law 1161 = .ok (.aload_n 2, 1) := by decide +kernel
theorem dL_law_1162 : decode cL_law 1162 = .ok (.invokevirtual 144, 3) := by decide +kernel
theorem dL_law_1165 : decode cL_law 1165 = .ok (.iload 5, 2) := by decide +kernel
theorem dL_law_1167 : decode cL_law 1167 = .ok (.if_icmp .eq 5, 3) := by decide +kernel
theorem dL_law_1170 : decode cL_law 1170 = .ok (.iconst 0, 1) := by decide +kernel
theorem dL_law_1171 : decode cL_law 1171 = .ok (.ireturn, 1) := by decide +kernel
theorem dL_law_1172 : decode cL_law 1172 = .ok (.iload 5, 2) := by decide +kernel
theorem dL_law_1174 : decode cL_law 1174 = .ok (.ifCond .ne 15, 3) := by decide +kernel
theorem dL_law_1177 : decode cL_law 1177 = .ok (.aload_n 3, 1) := by decide +kernel
theorem dL_law_1178 : decode cL_law 1178 = .ok (.iconst 0, 1) := by decide +kernel
theorem dL_law_1179 : decode cL_law 1179 = .ok (.laload, 1) := by decide +kernel
theorem dL_law_1180 : decode cL_law 1180 = .ok (.iload 6, 2) := by decide +kernel
theorem dL_law_1182 : decode cL_law 1182 = .ok (.i2l, 1) := by decide +kernel
theorem dL_law_1183 : decode cL_law 1183 = .ok (.lcmp, 1) := by decide +kernel
theorem dL_law_1184 : decode cL_law 1184 = .ok (.ifCond .eq 5, 3) := by decide +kernel
theorem dL_law_1187 : decode cL_law 1187 = .ok (.iconst 0, 1) := by decide +kernel
theorem dL_law_1188 : decode cL_law 1188 = .ok (.ireturn, 1) := by decide +kernel
theorem dL_law_1189 : decode cL_law 1189 = .ok (.goto 1776, 3) := by decide +kernel
theorem dL_law_1192 : decode cL_law 1192 = .ok (.aload_n 1, 1) := by decide +kernel
theorem dL_law_1193 : decode cL_law 1193 = .ok (.aload_n 0, 1) := by decide +kernel
theorem dL_law_1194 : decode cL_law 1194 = .ok (.iload 4, 2) := by decide +kernel
theorem dL_law_1196 : decode cL_law 1196 = .ok (.iconst 1, 1) := by decide +kernel
theorem dL_law_1197 : decode cL_law 1197 = .ok (.iadd, 1) := by decide +kernel
theorem dL_law_1198 : decode cL_law 1198 = .ok (.iaload, 1) := by decide +kernel
theorem dL_law_1199 : decode cL_law 1199 = .ok (.aload_n 0, 1) := by decide +kernel
theorem dL_law_1200 : decode cL_law 1200 = .ok (.iload 4, 2) := by decide +kernel
theorem dL_law_1202 : decode cL_law 1202 = .ok (.iconst 2, 1) := by decide +kernel
theorem dL_law_1203 : decode cL_law 1203 = .ok (.iadd, 1) := by decide +kernel
theorem dL_law_1204 : decode cL_law 1204 = .ok (.iaload, 1) := by decide +kernel
theorem dL_law_1205 : decode cL_law 1205 = .ok (.aload_n 3, 1) := by decide +kernel
theorem dL_law_1206 : decode cL_law 1206 = .ok (.invokestatic 197, 3) := by decide +kernel
theorem dL_law_1209 : decode cL_law 1209 = .ok (.istore 5, 2) := by decide +kernel
theorem dL_law_1211 : decode cL_law 1211 = .ok (.aload_n 2, 1) := by decide +kernel
theorem dL_law_1212 : decode cL_law 1212 = .ok (.aload_n 0, 1) := by decide +kernel
theorem dL_law_1213 : decode cL_law 1213 = .ok (.iload 4, 2) := by decide +kernel
theorem dL_law_1215 : decode cL_law 1215 = .ok (.iconst 1, 1) := by decide +kernel
theorem dL_law_1216 : decode cL_law 1216 = .ok (.iadd, 1) := by decide +kernel
theorem dL_law_1217 : decode cL_law 1217 = .ok (.iaload, 1) := by decide +kernel
theorem dL_law_1218 : decode cL_law 1218 = .ok (.aload_n 0, 1) := by decide +kernel
theorem dL_law_1219 : decode cL_law 1219 = .ok (.iload 4, 2) := by decide +kernel
theorem dL_law_1221 : decode cL_law 1221 = .ok (.iconst 2, 1) := by decide +kernel
theorem dL_law_1222 : decode cL_law 1222 = .ok (.iadd, 1) := by decide +kernel
theorem dL_law_1223 : decode cL_law 1223 = .ok (.iaload, 1) := by decide +kernel
theorem dL_law_1224 : decode cL_law 1224 = .ok (.invokevirtual 199, 3) := by decide +kernel
theorem dL_law_1227 : decode cL_law 1227 = .ok (.istore 6, 2) := by decide +kernel
theorem dL_law_1229 : decode cL_law 1229 = .ok (.aload_n 2, 1) := by decide +kernel
theorem dL_law_1230 : decode cL_law 1230 = .ok (.invokevirtual 144, 3) := by decide +kernel
theorem dL_law_1233 : decode cL_law 1233 = .ok (.iload 5, 2) := by decide +kernel
theorem dL_law_1235 : decode cL_law 1235 = .ok (.if_icmp .eq 5, 3) := by decide +kernel
theorem dL_law_1238 : decode cL_law 1238 = .ok (.iconst 0, 1) := by decide +kernel
theorem dL_law_1239 : decode cL_law 1239 = .ok (.ireturn, 1) := by decide +kernel
theorem dL_law_1240 : decode cL_law 1240 = .ok (.iload 5, 2) := by decide +kernel
theorem dL_law_1242 : decode cL_law 1242 = .ok (.ifCond .ne 15, 3) := by decide +kernel
theorem dL_law_1245 : decode cL_law 1245 = .ok (.aload_n 3, 1) := by decide +kernel
theorem dL_law_1246 : decode cL_law 1246 = .ok (.iconst 0, 1) := by decide +kernel
theorem dL_law_1247 : decode cL_law 1247 = .ok (.laload, 1) := by decide +kernel
theorem dL_law_1248 : decode cL_law 1248 = .ok (.iload 6, 2) := by decide +kernel
theorem dL_law_1250 : decode cL_law 1250 = .ok (.i2l, 1) := by decide +kernel
theorem dL_law_1251 : decode cL_law 1251 = .ok (.lcmp, 1) := by decide +kernel
theorem dL_law_1252 : decode cL_law 1252 = .ok (.ifCond .eq 5, 3) := by decide +kernel
theorem dL_law_1255 : decode cL_law 1255 = .ok (.iconst 0, 1) := by decide +kernel
theorem dL_law_1256 : decode cL_law 1256 = .ok (.ireturn, 1) := by decide +kernel
theorem dL_law_1257 : decode cL_law 1257 = .ok (.goto 1708, 3) := by decide +kernel
theorem dL_law_1260 : decode cL_law 1260 = .ok (.aload_n 1, 1) := by decide +kernel
theorem dL_law_1261 : decode cL_law 1261 = .ok (.aload_n 0, 1) := by decide +kernel
theorem dL_law_1262 : decode cL_law 1262 = .ok (.iload 4, 2) := by decide +kernel
theorem dL_law_1264 : decode cL_law 1264 = .ok (.iconst 1, 1) := by decide +kernel
theorem dL_law_1265 : decode cL_law 1265 = .ok (.iadd, 1) := by decide +kernel
theorem dL_law_1266 : decode cL_law 1266 = .ok (.iaload, 1) := by decide +kernel
theorem dL_law_1267 : decode cL_law 1267 = .ok (.aload_n 0, 1) := by decide +kernel
theorem dL_law_1268 : decode cL_law 1268 = .ok (.iload 4, 2) := by decide +kernel
theorem dL_law_1270 : decode cL_law 1270 = .ok (.iconst 2, 1) := by decide +kernel
theorem dL_law_1271 : decode cL_law 1271 = .ok (.iadd, 1) := by decide +kernel
theorem dL_law_1272 : decode cL_law 1272 = .ok (.iaload, 1) := by decide +kernel
theorem dL_law_1273 : decode cL_law 1273 = .ok (.aload_n 3, 1) := by decide +kernel
theorem dL_law_1274 : decode cL_law 1274 = .ok (.invokestatic 200, 3) := by decide +kernel
theorem dL_law_1277 : decode cL_law 1277 = .ok (.istore 5, 2) := by decide +kernel
theorem dL_law_1279 : decode cL_law 1279 = .ok (.aload_n 2, 1) := by decide +kernel
theorem dL_law_1280 : decode cL_law 1280 = .ok (.aload_n 0, 1) := by decide +kernel
theorem dL_law_1281 : decode cL_law 1281 = .ok (.iload 4, 2) := by decide +kernel
theorem dL_law_1283 : decode cL_law 1283 = .ok (.iconst 1, 1) := by decide +kernel
theorem dL_law_1284 : decode cL_law 1284 = .ok (.iadd, 1) := by decide +kernel
theorem dL_law_1285 : decode cL_law 1285 = .ok (.iaload, 1) := by decide +kernel
theorem dL_law_1286 : decode cL_law 1286 = .ok (.aload_n 0, 1) := by decide +kernel
theorem dL_law_1287 : decode cL_law 1287 = .ok (.iload 4, 2) := by decide +kernel
theorem dL_law_1289 : decode cL_law 1289 = .ok (.iconst 2, 1) := by decide +kernel
theorem dL_law_1290 : decode cL_law 1290 = .ok (.iadd, 1) := by decide +kernel
theorem dL_law_1291 : decode cL_law 1291 = .ok (.iaload, 1) := by decide +kernel
theorem dL_law_1292 : decode cL_law 1292 = .ok (.invokevirtual 202, 3) := by decide +kernel
theorem dL_law_1295 : decode cL_law 1295 = .ok (.istore 6, 2) := by decide +kernel
theorem dL_law_1297 : decode cL_law 1297 = .ok (.aload_n 2, 1) := by decide +kernel
theorem dL_law_1298 : decode cL_law 1298 = .ok (.invokevirtual 144, 3) := by decide +kernel
theorem dL_law_1301 : decode cL_law 1301 = .ok (.iload 5, 2) := by decide +kernel
theorem dL_law_1303 : decode cL_law 1303 = .ok (.if_icmp .eq 5, 3) := by decide +kernel
theorem dL_law_1306 : decode cL_law 1306 = .ok (.iconst 0, 1) := by decide +kernel
theorem dL_law_1307 : decode cL_law 1307 = .ok (.ireturn, 1) := by decide +kernel
theorem dL_law_1308 : decode cL_law 1308 = .ok (.iload 5, 2) := by decide +kernel
theorem dL_law_1310 : decode cL_law 1310 = .ok (.ifCond .ne 15, 3) := by decide +kernel
theorem dL_law_1313 : decode cL_law 1313 = .ok (.aload_n 3, 1) := by decide +kernel
theorem dL_law_1314 : decode cL_law 1314 = .ok (.iconst 0, 1) := by decide +kernel
theorem dL_law_1315 : decode cL_law 1315 = .ok (.laload, 1) := by decide +kernel
theorem dL_law_1316 : decode cL_law 1316 = .ok (.iload 6, 2) := by decide +kernel
theorem dL_law_1318 : decode cL_law 1318 = .ok (.i2l, 1) := by decide +kernel
theorem dL_law_1319 : decode cL_law 1319 = .ok (.lcmp, 1) := by decide +kernel
theorem dL_law_1320 : decode cL_law 1320 = .ok (.ifCond .eq 5, 3) := by decide +kernel
theorem dL_law_1323 : decode cL_law 1323 = .ok (.iconst 0, 1) := by decide +kernel
theorem dL_law_1324 : decode cL_law 1324 = .ok (.ireturn, 1) := by decide +kernel
theorem dL_law_1325 : decode cL_law 1325 = .ok (.goto 1640, 3) := by decide +kernel
theorem dL_law_1328 : decode cL_law 1328 = .ok (.aload_n 1, 1) := by decide +kernel
theorem dL_law_1329 : decode cL_law 1329 = .ok (.aload_n 0, 1) := by decide +kernel
theorem dL_law_1330 : decode cL_law 1330 = .ok (.iload 4, 2) := by decide +kernel
theorem dL_law_1332 : decode cL_law 1332 = .ok (.iconst 1, 1) := by decide +kernel
theorem dL_law_1333 : decode cL_law 1333 = .ok (.iadd, 1) := by decide +kernel
theorem dL_law_1334 : decode cL_law 1334 = .ok (.iaload, 1) := by decide +kernel
theorem dL_law_1335 : decode cL_law 1335 = .ok (.aload_n 3, 1) := by decide +kernel
theorem dL_law_1336 : decode cL_law 1336 = .ok (.invokestatic 203, 3) := by decide +kernel
theorem dL_law_1339 : decode cL_law 1339 = .ok (.istore 5, 2) := by decide +kernel
theorem dL_law_1341 : decode cL_law 1341 = .ok (.aload_n 2, 1) := by decide +kernel
theorem dL_law_1342 : decode cL_law 1342 = .ok (.aload_n 0, 1) := by decide +kernel
theorem dL_law_1343 : decode cL_law 1343 = .ok (.iload 4, 2) := by decide +kernel
theorem dL_law_1345 : decode cL_law 1345 = .ok (.iconst 1, 1) := by decide +kernel
theorem dL_law_1346 : decode cL_law 1346 = .ok (.iadd, 1) := by decide +kernel
theorem dL_law_1347 : decode cL_law 1347 = .ok (.iaload, 1) := by decide +kernel
theorem dL_law_1348 : decode cL_law 1348 = .ok (.invokevirtual 205, 3) := by decide +kernel
theorem dL_law_1351 : decode cL_law 1351 = .ok (.istore 6, 2) := by decide +kernel
theorem dL_law_1353 : decode cL_law 1353 = .ok (.aload_n 2, 1) := by decide +kernel
theorem dL_law_1354 : decode cL_law 1354 = .ok (.invokevirtual 144, 3) := by decide +kernel
theorem dL_law_1357 : decode cL_law 1357 = .ok (.iload 5, 2) := by decide +kernel
theorem dL_law_1359 : decode cL_law 1359 = .ok (.if_icmp .eq 5, 3) := by decide +kernel
theorem dL_law_1362 : decode cL_law 1362 = .ok (.iconst 0, 1) := by decide +kernel
theorem dL_law_1363 : decode cL_law 1363 = .ok (.ireturn, 1) := by decide +kernel
theorem dL_law_1364 : decode cL_law 1364 = .ok (.iload 5, 2) := by decide +kernel
theorem dL_law_1366 : decode cL_law 1366 = .ok (.ifCond .ne 15, 3) := by decide +kernel
theorem dL_law_1369 : decode cL_law 1369 = .ok (.aload_n 3, 1) := by decide +kernel
theorem dL_law_1370 : decode cL_law 1370 = .ok (.iconst 0, 1) := by decide +kernel
theorem dL_law_1371 : decode cL_law 1371 = .ok (.laload, 1) := by decide +kernel
theorem dL_law_1372 : decode cL_law 1372 = .ok (.iload 6, 2) := by decide +kernel
theorem dL_law_1374 : decode cL_law 1374 = .ok (.i2l, 1) := by decide +kernel
theorem dL_law_1375 : decode cL_law 1375 = .ok (.lcmp, 1) := by decide +kernel
theorem dL_law_1376 : decode cL_law 1376 = .ok (.ifCond .eq 5, 3) := by decide +kernel
theorem dL_law_1379 : decode cL_law 1379 = .ok (.iconst 0, 1) := by decide +kernel
theorem dL_law_1380 : decode cL_law 1380 = .ok (.ireturn, 1) := by decide +kernel
theorem dL_law_1381 : decode cL_law 1381 = .ok (.goto 1584, 3) := by decide +kernel
theorem dL_law_1384 : decode cL_law 1384 = .ok (.aload_n 1, 1) := by decide +kernel
theorem dL_law_1385 : decode cL_law 1385 = .ok (.aload_n 0, 1) := by decide +kernel
theorem dL_law_1386 : decode cL_law 1386 = .ok (.iload 4, 2) := by decide +kernel
theorem dL_law_1388 : decode cL_law 1388 = .ok (.iconst 1, 1) := by decide +kernel
theorem dL_law_1389 : decode cL_law 1389 = .ok (.iadd, 1) := by decide +kernel
theorem dL_law_1390 : decode cL_law 1390 = .ok (.iaload, 1) := by decide +kernel
theorem dL_law_1391 : decode cL_law 1391 = .ok (.aload_n 3, 1) := by decide +kernel
theorem dL_law_1392 : decode cL_law 1392 = .ok (.invokestatic 206, 3) := by decide +kernel
theorem dL_law_1395 : decode cL_law 1395 = .ok (.istore 5, 2) := by decide +kernel
theorem dL_law_1397 : decode cL_law 1397 = .ok (.aload_n 2, 1) := by decide +kernel
theorem dL_law_1398 : decode cL_law 1398 = .ok (.aload_n 0, 1) := by decide +kernel
theorem dL_law_1399 : decode cL_law 1399 = .ok (.iload 4, 2) := by decide +kernel
theorem dL_law_1401 : decode cL_law 1401 = .ok (.iconst 1, 1) := by decide +kernel
theorem dL_law_1402 : decode cL_law 1402 = .ok (.iadd, 1) := by decide +kernel
theorem dL_law_1403 : decode cL_law 1403 = .ok (.iaload, 1) := by decide +kernel
theorem dL_law_1404 : decode cL_law 1404 = .ok (.invokevirtual 208, 3) := by decide +kernel
theorem dL_law_1407 : decode cL_law 1407 = .ok (.istore 6, 2) := by decide +kernel
theorem dL_law_1409 : decode cL_law 1409 = .ok (.aload_n 2, 1) := by decide +kernel
theorem dL_law_1410 : decode cL_law 1410 = .ok (.invokevirtual 144, 3) := by decide +kernel
theorem dL_law_1413 : decode cL_law 1413 = .ok (.iload 5, 2) := by decide +kernel
theorem dL_law_1415 : decode cL_law 1415 = .ok (.if_icmp .eq 5, 3) := by decide +kernel
theorem dL_law_1418 : decode cL_law 1418 = .ok (.iconst 0, 1) := by decide +kernel
theorem dL_law_1419 : decode cL_law 1419 = .ok (.ireturn, 1) := by decide +kernel
theorem dL_law_1420 : decode cL_law 1420 = .ok (.iload 5, 2) := by decide +kernel
theorem dL_law_1422 : decode cL_law 1422 = .ok (.ifCond .ne 15, 3) := by decide +kernel
theorem dL_law_1425 : decode cL_law 1425 = .ok (.aload_n 3, 1) := by decide +kernel
theorem dL_law_1426 : decode cL_law 1426 = .ok (.iconst 0, 1) := by decide +kernel
theorem dL_law_1427 : decode cL_law 1427 = .ok (.laload, 1) := by decide +kernel
theorem dL_law_1428 : decode cL_law 1428 = .ok (.iload 6, 2) := by decide +kernel
theorem dL_law_1430 : decode cL_law 1430 = .ok (.i2l, 1) := by decide +kernel
theorem dL_law_1431 : decode cL_law 1431 = .ok (.lcmp, 1) := by decide +kernel
theorem dL_law_1432 : decode cL_law 1432 = .ok (.ifCond .eq 5, 3) := by decide +kernel
theorem dL_law_1435 : decode cL_law 1435 = .ok (.iconst 0, 1) := by decide +kernel
theorem dL_law_1436 : decode cL_law 1436 = .ok (.ireturn, 1) := by decide +kernel
theorem dL_law_1437 : decode cL_law 1437 = .ok (.goto 1528, 3) := by decide +kernel
theorem dL_law_1440 : decode cL_law 1440 = .ok (.aload_n 1, 1) := by decide +kernel
theorem dL_law_1441 : decode cL_law 1441 = .ok (.aload_n 0, 1) := by decide +kernel
theorem dL_law_1442 : decode cL_law 1442 = .ok (.iload 4, 2) := by decide +kernel
theorem dL_law_1444 : decode cL_law 1444 = .ok (.iconst 1, 1) := by decide +kernel
theorem dL_law_1445 : decode cL_law 1445 = .ok (.iadd, 1) := by decide +kernel
theorem dL_law_1446 : decode cL_law 1446 = .ok (.iaload, 1) := by decide +kernel
theorem dL_law_1447 : decode cL_law 1447 = .ok (.aload_n 3, 1) := by decide +kernel
theorem dL_law_1448 : decode cL_law 1448 = .ok (.invokestatic 209, 3) := by decide +kernel
theorem dL_law_1451 : decode cL_law 1451 = .ok (.istore 5, 2) := by decide +kernel
theorem dL_law_1453 : decode cL_law 1453 = .ok (.aload_n 2, 1) := by decide +kernel
theorem dL_law_1454 : decode cL_law 1454 = .ok (.aload_n 0, 1) := by decide +kernel
theorem dL_law_1455 : decode cL_law 1455 = .ok (.iload 4, 2) := by decide +kernel
theorem dL_law_1457 : decode cL_law 1457 = .ok (.iconst 1, 1) := by decide +kernel
theorem dL_law_1458 : decode cL_law 1458 = .ok (.iadd, 1) := by decide +kernel
theorem dL_law_1459 : decode cL_law 1459 = .ok (.iaload, 1) := by decide +kernel
theorem dL_law_1460 : decode cL_law 1460 = .ok (.invokevirtual 211, 3) := by decide +kernel
theorem dL_law_1463 : decode cL_law 1463 = .ok (.istore 6, 2) := by decide +kernel
theorem dL_law_1465 : decode cL_law 1465 = .ok (.aload_n 2, 1) := by decide +kernel
theorem dL_law_1466 : decode cL_law 1466 = .ok (.invokevirtual 144, 3) := by decide +kernel
theorem dL_law_1469 : decode cL_law 1469 = .ok (.iload 5, 2) := by decide +kernel
theorem dL_law_1471 : decode cL_law 1471 = .ok (.if_icmp .eq 5, 3) := by decide +kernel
theorem dL_law_1474 : decode cL_law 1474 = .ok (.iconst 0, 1) := by decide +kernel
theorem dL_law_1475 : decode cL_law 1475 = .ok (.ireturn, 1) := by decide +kernel
theorem dL_law_1476 : decode cL_law 1476 = .ok (.iload 5, 2) := by decide +kernel
theorem dL_law_1478 : decode cL_law 1478 = .ok (.ifCond .ne 15, 3) := by decide +kernel
theorem dL_law_1481 : decode cL_law 1481 = .ok (.aload_n 3, 1) := by decide +kernel
theorem dL_law_1482 : decode cL_law 1482 = .ok (.iconst 0, 1) := by decide +kernel
theorem dL_law_1483 : decode cL_law 1483 = .ok (.laload, 1) := by decide +kernel
theorem dL_law_1484 : decode cL_law 1484 = .ok (.iload 6, 2) := by decide +kernel
theorem dL_law_1486 : decode cL_law 1486 = .ok (.i2l, 1) := by decide +kernel
theorem dL_law_1487 : decode cL_law 1487 = .ok (.lcmp, 1) := by decide +kernel
theorem dL_law_1488 : decode cL_law 1488 = .ok (.ifCond .eq 5, 3) := by decide +kernel
theorem dL_law_1491 : decode cL_law 1491 = .ok (.iconst 0, 1) := by decide +kernel
theorem dL_law_1492 : decode cL_law 1492 = .ok (.ireturn, 1) := by decide +kernel
theorem dL_law_1493 : decode cL_law 1493 = .ok (.goto 1472, 3) := by decide +kernel
theorem dL_law_1496 : decode cL_law 1496 = .ok (.aload_n 1, 1) := by decide +kernel
theorem dL_law_1497 : decode cL_law 1497 = .ok (.aload_n 0, 1) := by decide +kernel
theorem dL_law_1498 : decode cL_law 1498 = .ok (.iload 4, 2) := by decide +kernel
theorem dL_law_1500 : decode cL_law 1500 = .ok (.iconst 1, 1) := by decide +kernel
theorem dL_law_1501 : decode cL_law 1501 = .ok (.iadd, 1) := by decide +kernel
theorem dL_law_1502 : decode cL_law 1502 = .ok (.iaload, 1) := by decide +kernel
theorem dL_law_1503 : decode cL_law 1503 = .ok (.aload_n 0, 1) := by decide +kernel
theorem dL_law_1504 : decode cL_law 1504 = .ok (.iload 4, 2) := by decide +kernel
theorem dL_law_1506 : decode cL_law 1506 = .ok (.iconst 2, 1) := by decide +kernel
theorem dL_law_1507 : decode cL_law 1507 = .ok (.iadd, 1) := by decide +kernel
theorem dL_law_1508 : decode cL_law 1508 = .ok (.iaload, 1) := by decide +kernel
theorem dL_law_1509 : decode cL_law 1509 = .ok (.aload_n 3, 1) := by decide +kernel
theorem dL_law_1510 : decode cL_law 1510 = .ok (.invokestatic 212, 3) := by decide +kernel
theorem dL_law_1513 : decode cL_law 1513 = .ok (.istore 5, 2) := by decide +kernel
theorem dL_law_1515 : decode cL_law 1515 = .ok (.aload_n 2, 1) := by decide +kernel
theorem dL_law_1516 : decode cL_law 1516 = .ok (.aload_n 0, 1) := by decide +kernel
theorem dL_law_1517 : decode cL_law 1517 = .ok (.iload 4, 2) := by decide +kernel
theorem dL_law_1519 : decode cL_law 1519 = .ok (.iconst 1, 1) := by decide +kernel
theorem dL_law_1520 : decode cL_law 1520 = .ok (.iadd, 1) := by decide +kernel
theorem dL_law_1521 : decode cL_law 1521 = .ok (.iaload, 1) := by decide +kernel
theorem dL_law_1522 : decode cL_law 1522 = .ok (.aload_n 0, 1) := by decide +kernel
theorem dL_law_1523 : decode cL_law 1523 = .ok (.iload 4, 2) := by decide +kernel
theorem dL_law_1525 : decode cL_law 1525 = .ok (.iconst 2, 1) := by decide +kernel
theorem dL_law_1526 : decode cL_law 1526 = .ok (.iadd, 1) := by decide +kernel
theorem dL_law_1527 : decode cL_law 1527 = .ok (.iaload, 1) := by decide +kernel
theorem dL_law_1528 : decode cL_law 1528 = .ok (.invokevirtual 214, 3) := by decide +kernel
theorem dL_law_1531 : decode cL_law 1531 = .ok (.istore 6, 2) := by decide +kernel
theorem dL_law_1533 : decode cL_law 1533 = .ok (.aload_n 2, 1) := by decide +kernel
theorem dL_law_1534 : decode cL_law 1534 = .ok (.invokevirtual 144, 3) := by decide +kernel
theorem dL_law_1537 : decode cL_law 1537 = .ok (.iload 5, 2) := by decide +kernel
theorem dL_law_1539 : decode cL_law 1539 = .ok (.if_icmp .eq 5, 3) := by decide +kernel
theorem dL_law_1542 : decode cL_law 1542 = .ok (.iconst 0, 1) := by decide +kernel
theorem dL_law_1543 : decode cL_law 1543 = .ok (.ireturn, 1) := by decide +kernel
theorem dL_law_1544 : decode cL_law 1544 = .ok (.iload 5, 2) := by decide +kernel
theorem dL_law_1546 : decode cL_law 1546 = .ok (.ifCond .ne 15, 3) := by decide +kernel
theorem dL_law_1549 : decode cL_law 1549 = .ok (.aload_n 3, 1) := by decide +kernel
theorem dL_law_1550 : decode cL_law 1550 = .ok (.iconst 0, 1) := by decide +kernel
theorem dL_law_1551 : decode cL_law 1551 = .ok (.laload, 1) := by decide +kernel
theorem dL_law_1552 : decode cL_law 1552 = .ok (.iload 6, 2) := by decide +kernel
theorem dL_law_1554 : decode cL_law 1554 = .ok (.i2l, 1) := by decide +kernel
theorem dL_law_1555 : decode cL_law 1555 = .ok (.lcmp, 1) := by decide +kernel
theorem dL_law_1556 : decode cL_law 1556 = .ok (.ifCond .eq 5, 3) := by decide +kernel
theorem dL_law_1559 : decode cL_law 1559 = .ok (.iconst 0, 1) := by decide +kernel
theorem dL_law_1560 : decode cL_law 1560 = .ok (.ireturn, 1) := by decide +kernel
theorem dL_law_1561 : decode cL_law 1561 = .ok (.goto 1404, 3) := by decide +kernel
theorem dL_law_1564 : decode cL_law 1564 = .ok (.aload_n 1, 1) := by decide +kernel
theorem dL_law_1565 : decode cL_law 1565 = .ok (.aload_n 0, 1) := by decide +kernel
theorem dL_law_1566 : decode cL_law 1566 = .ok (.iload 4, 2) := by decide +kernel
theorem dL_law_1568 : decode cL_law 1568 = .ok (.iconst 1, 1) := by decide +kernel
theorem dL_law_1569 : decode cL_law 1569 = .ok (.iadd, 1) := by decide +kernel
theorem dL_law_1570 : decode cL_law 1570 = .ok (.iaload, 1) := by decide +kernel
theorem dL_law_1571 : decode cL_law 1571 = .ok (.aload_n 3, 1) := by decide +kernel
theorem dL_law_1572 : decode cL_law 1572 = .ok (.invokestatic 215, 3) := by decide +kernel
theorem dL_law_1575 : decode cL_law 1575 = .ok (.istore 5, 2) := by decide +kernel
theorem dL_law_1577 : decode cL_law 1577 = .ok (.aload_n 2, 1) := by decide +kernel
theorem dL_law_1578 : decode cL_law 1578 = .ok (.aload_n 0, 1) := by decide +kernel
theorem dL_law_1579 : decode cL_law 1579 = .ok (.iload 4, 2) := by decide +kernel
theorem dL_law_1581 : decode cL_law 1581 = .ok (.iconst 1, 1) := by decide +kernel
theorem dL_law_1582 : decode cL_law 1582 = .ok (.iadd, 1) := by decide +kernel
theorem dL_law_1583 : decode cL_law 1583 = .ok (.iaload, 1) := by decide +kernel
theorem dL_law_1584 : decode cL_law 1584 = .ok (.invokevirtual 217, 3) := by decide +kernel
theorem dL_law_1587 : decode cL_law 1587 = .ok (.istore 6, 2) := by decide +kernel
theorem dL_law_1589 : decode cL_law 1589 = .ok (.aload_n 2, 1) := by decide +kernel
theorem dL_law_1590 : decode cL_law 1590 = .ok (.invokevirtual 144, 3) := by decide +kernel
theorem dL_law_1593 : decode cL_law 1593 = .ok (.iload 5, 2) := by decide +kernel
theorem dL_law_1595 : decode cL_law 1595 = .ok (.if_icmp .eq 5, 3) := by decide +kernel
theorem dL_law_1598 : decode cL_law 1598 = .ok (.iconst 0, 1) := by decide +kernel
theorem dL_law_1599 : decode cL_law 1599 = .ok (.ireturn, 1) := by decide +kernel
theorem dL_law_1600 : decode cL_law 1600 = .ok (.iload 5, 2) := by decide +kernel
theorem dL_law_1602 : decode cL_law 1602 = .ok (.ifCond .ne 22, 3) := by decide +kernel
theorem dL_law_1605 : decode cL_law 1605 = .ok (.aload_n 3, 1) := by decide +kernel
theorem dL_law_1606 : decode cL_law 1606 = .ok (.iconst 0, 1) := by decide +kernel
theorem dL_law_1607 : decode cL_law 1607 = .ok (.laload, 1) := by decide +kernel
theorem dL_law_1608 : decode cL_law 1608 = .ok (.iload 6, 2) := by decide +kernel
theorem dL_law_1610 : decode cL_law 1610 = .ok (.ifCond .eq 7, 3) := by decide +kernel
theorem dL_law_1613 : decode cL_law 1613 = .ok (.lconst 1, 1) := by decide +kernel
theorem dL_law_1614 : decode cL_law 1614 = .ok (.goto 4, 3) := by decide +kernel
theorem dL_law_1617 : decode cL_law 1617 = .ok (.lconst 0, 1) := by decide +kernel
theorem dL_law_1618 : decode cL_law 1618 = .ok (.lcmp, 1) := by decide +kernel
theorem dL_law_1619 : decode cL_law 1619 = .ok (.ifCond .eq 5, 3) := by decide +kernel
theorem dL_law_1622 : decode cL_law 1622 = .ok (.iconst 0, 1) := by decide +kernel
theorem dL_law_1623 : decode cL_law 1623 = .ok (.ireturn, 1) := by decide +kernel
theorem dL_law_1624 : decode cL_law 1624 = .ok (.goto 1341, 3) := by decide +kernel
theorem dL_law_1627 : decode cL_law 1627 = .ok (.aload_n 1, 1) := by decide +kernel
theorem dL_law_1628 : decode cL_law 1628 = .ok (.aload_n 0, 1) := by decide +kernel
theorem dL_law_1629 : decode cL_law 1629 = .ok (.iload 4, 2) := by decide +kernel
theorem dL_law_1631 : decode cL_law 1631 = .ok (.iconst 1, 1) := by decide +kernel
theorem dL_law_1632 : decode cL_law 1632 = .ok (.iadd, 1) := by decide +kernel
theorem dL_law_1633 : decode cL_law 1633 = .ok (.iaload, 1) := by decide +kernel
theorem dL_law_1634 : decode cL_law 1634 = .ok (.aload_n 0, 1) := by decide +kernel
theorem dL_law_1635 : decode cL_law 1635 = .ok (.iload 4, 2) := by decide +kernel
theorem dL_law_1637 : decode cL_law 1637 = .ok (.iconst 2, 1) := by decide +kernel
theorem dL_law_1638 : decode cL_law 1638 = .ok (.iadd, 1) := by decide +kernel
theorem dL_law_1639 : decode cL_law 1639 = .ok (.iaload, 1) := by decide +kernel
theorem dL_law_1640 : decode cL_law 1640 = .ok (.aload_n 3, 1) := by decide +kernel
theorem dL_law_1641 : decode cL_law 1641 = .ok (.invokestatic 218, 3) := by decide +kernel
theorem dL_law_1644 : decode cL_law 1644 = .ok (.istore 5, 2) := by decide +kernel
theorem dL_law_1646 : decode cL_law 1646 = .ok (.aload_n 2, 1) := by decide +kernel
theorem dL_law_1647 : decode cL_law 1647 = .ok (.aload_n 0, 1) := by decide +kernel
theorem dL_law_1648 : decode cL_law 1648 = .ok (.iload 4, 2) := by decide +kernel
theorem dL_law_1650 : decode cL_law 1650 = .ok (.iconst 1, 1) := by decide +kernel
theorem dL_law_1651 : decode cL_law 1651 = .ok (.iadd, 1) := by decide +kernel
theorem dL_law_1652 : decode cL_law 1652 = .ok (.iaload, 1) := by decide +kernel
theorem dL_law_1653 : decode cL_law 1653 = .ok (.aload_n 0, 1) := by decide +kernel
theorem dL_law_1654 : decode cL_law 1654 = .ok (.iload 4, 2) := by decide +kernel
theorem dL_law_1656 : decode cL_law 1656 = .ok (.iconst 2, 1) := by decide +kernel
theorem dL_law_1657 : decode cL_law 1657 = .ok (.iadd, 1) := by decide +kernel
theorem dL_law_1658 : decode cL_law 1658 = .ok (.iaload, 1) := by decide +kernel
theorem dL_law_1659 : decode cL_law 1659 = .ok (.invokevirtual 220, 3) := by decide +kernel
theorem dL_law_1662 : decode cL_law 1662 = .ok (.istore 6, 2) := by decide +kernel
theorem dL_law_1664 : decode cL_law 1664 = .ok (.aload_n 2, 1) := by decide +kernel
theorem dL_law_1665 : decode cL_law 1665 = .ok (.invokevirtual 144, 3) := by decide +kernel
theorem dL_law_1668 : decode cL_law 1668 = .ok (.iload 5, 2) := by decide +kernel
theorem dL_law_1670 : decode cL_law 1670 = .ok (.if_icmp .eq 5, 3) := by decide +kernel
theorem dL_law_1673 : decode cL_law 1673 = .ok (.iconst 0, 1) := by decide +kernel
theorem dL_law_1674 : decode cL_law 1674 = .ok (.ireturn, 1) := by decide +kernel
theorem dL_law_1675 : decode cL_law 1675 = .ok (.iload 5, 2) := by decide +kernel
theorem dL_law_1677 : decode cL_law 1677 = .ok (.ifCond .ne 15, 3) := by decide +kernel
theorem dL_law_1680 : decode cL_law 1680 = .ok (.aload_n 3, 1) := by decide +kernel
theorem dL_law_1681 : decode cL_law 1681 = .ok (.iconst 0, 1) := by decide +kernel
theorem dL_law_1682 : decode cL_law 1682 = .ok (.laload, 1) := by decide +kernel
theorem dL_law_1683 : decode cL_law 1683 = .ok (.iload 6, 2) := by decide +kernel
theorem dL_law_1685 : decode cL_law 1685 = .ok (.i2l, 1) := by decide +kernel
theorem dL_law_1686 : decode cL_law 1686 = .ok (.lcmp, 1) := by decide +kernel
theorem dL_law_1687 : decode cL_law 1687 = .ok (.ifCond .eq 5, 3) := by decide +kernel
theorem dL_law_1690 : decode cL_law 1690 = .ok (.iconst 0, 1) := by decide +kernel
theorem dL_law_1691 : decode cL_law 1691 = .ok (.ireturn, 1) := by decide +kernel
theorem dL_law_1692 : decode cL_law 1692 = .ok (.goto 1273, 3) := by decide +kernel
theorem dL_law_1695 : decode cL_law 1695 = .ok (.aload_n 1, 1) := by decide +kernel
theorem dL_law_1696 : decode cL_law 1696 = .ok (.aload_n 0, 1) := by decide +kernel
theorem dL_law_1697 : decode cL_law 1697 = .ok (.iload 4, 2) := by decide +kernel
theorem dL_law_1699 : decode cL_law 1699 = .ok (.iconst 1, 1) := by decide +kernel
theorem dL_law_1700 : decode cL_law 1700 = .ok (.iadd, 1) := by decide +kernel
theorem dL_law_1701 : decode cL_law 1701 = .ok (.iaload, 1) := by decide +kernel
theorem dL_law_1702 : decode cL_law 1702 = .ok (.aload_n 0, 1) := by decide +kernel
theorem dL_law_1703 : decode cL_law 1703 = .ok (.iload 4, 2) := by decide +kernel
theorem dL_law_1705 : decode cL_law 1705 = .ok (.iconst 2, 1) := by decide +kernel
theorem dL_law_1706 : decode cL_law 1706 = .ok (.iadd, 1) := by decide +kernel
theorem dL_law_1707 : decode cL_law 1707 = .ok (.iaload, 1) := by decide +kernel
theorem dL_law_1708 : decode cL_law 1708 = .ok (.aload_n 3, 1) := by decide +kernel
theorem dL_law_1709 : decode cL_law 1709 = .ok (.invokestatic 221, 3) := by decide +kernel
theorem dL_law_1712 : decode cL_law 1712 = .ok (.istore 5, 2) := by decide +kernel
theorem dL_law_1714 : decode cL_law 1714 = .ok (.aload_n 2, 1) := by decide +kernel
theorem dL_law_1715 : decode cL_law 1715 = .ok (.aload_n 0, 1) := by decide +kernel
theorem dL_law_1716 : decode cL_law 1716 = .ok (.iload 4, 2) := by decide +kernel
theorem dL_law_1718 : decode cL_law 1718 = .ok (.iconst 1, 1) := by decide +kernel
theorem dL_law_1719 : decode cL_law 1719 = .ok (.iadd, 1) := by decide +kernel
theorem dL_law_1720 : decode cL_law 1720 = .ok (.iaload, 1) := by decide +kernel
theorem dL_law_1721 : decode cL_law 1721 = .ok (.aload_n 0, 1) := by decide +kernel
theorem dL_law_1722 : decode cL_law 1722 = .ok (.iload 4, 2) := by decide +kernel
theorem dL_law_1724 : decode cL_law 1724 = .ok (.iconst 2, 1) := by decide +kernel
theorem dL_law_1725 : decode cL_law 1725 = .ok (.iadd, 1) := by decide +kernel
theorem dL_law_1726 : decode cL_law 1726 = .ok (.iaload, 1) := by decide +kernel
theorem dL_law_1727 : decode cL_law 1727 = .ok (.invokevirtual 223, 3) := by decide +kernel
theorem dL_law_1730 : decode cL_law 1730 = .ok (.istore 6, 2) := by decide +kernel
theorem dL_law_1732 : decode cL_law 1732 = .ok (.aload_n 2, 1) := by decide +kernel
theorem dL_law_1733 : decode cL_law 1733 = .ok (.invokevirtual 144, 3) := by decide +kernel
theorem dL_law_1736 : decode cL_law 1736 = .ok (.iload 5, 2) := by decide +kernel
theorem dL_law_1738 : decode cL_law 1738 = .ok (.if_icmp .eq 5, 3) := by decide +kernel
theorem dL_law_1741 : decode cL_law 1741 = .ok (.iconst 0, 1) := by decide +kernel
theorem dL_law_1742 : decode cL_law 1742 = .ok (.ireturn, 1) := by decide +kernel
theorem dL_law_1743 : decode cL_law 1743 = .ok (.iload 5, 2) := by decide +kernel
theorem dL_law_1745 : decode cL_law 1745 = .ok (.ifCond .ne 15, 3) := by decide +kernel
theorem dL_law_1748 : decode cL_law 1748 = .ok (.aload_n 3, 1) := by decide +kernel
theorem dL_law_1749 : decode cL_law 1749 = .ok (.iconst 0, 1) := by decide +kernel
theorem dL_law_1750 : decode cL_law 1750 = .ok (.laload, 1) := by decide +kernel
theorem dL_law_1751 : decode cL_law 1751 = .ok (.iload 6, 2) := by decide +kernel
theorem dL_law_1753 : decode cL_law 1753 = .ok (.i2l, 1) := by decide +kernel
theorem dL_law_1754 : decode cL_law 1754 = .ok (.lcmp, 1) := by decide +kernel
theorem dL_law_1755 : decode cL_law 1755 = .ok (.ifCond .eq 5, 3) := by decide +kernel
theorem dL_law_1758 : decode cL_law 1758 = .ok (.iconst 0, 1) := by decide +kernel
theorem dL_law_1759 : decode cL_law 1759 = .ok (.ireturn, 1) := by decide +kernel
theorem dL_law_1760 : decode cL_law 1760 = .ok (.goto 1205, 3) := by decide +kernel
theorem dL_law_1763 : decode cL_law 1763 = .ok (.aload_n 1, 1) := by decide +kernel
theorem dL_law_1764 : decode cL_law 1764 = .ok (.aload_n 0, 1) := by decide +kernel
theorem dL_law_1765 : decode cL_law 1765 = .ok (.iload 4, 2) := by decide +kernel
theorem dL_law_1767 : decode cL_law 1767 = .ok (.iconst 1, 1) := by decide +kernel
theorem dL_law_1768 : decode cL_law 1768 = .ok (.iadd, 1) := by decide +kernel
theorem dL_law_1769 : decode cL_law 1769 = .ok (.iaload, 1) := by decide +kernel
theorem dL_law_1770 : decode cL_law 1770 = .ok (.aload_n 3, 1) := by decide +kernel
theorem dL_law_1771 : decode cL_law 1771 = .ok (.invokestatic 224, 3) := by decide +kernel
theorem dL_law_1774 : decode cL_law 1774 = .ok (.istore 5, 2) := by decide +kernel
theorem dL_law_1776 : decode cL_law 1776 = .ok (.aload_n 2, 1) := by decide +kernel
theorem dL_law_1777 : decode cL_law 1777 = .ok (.aload_n 0, 1) := by decide +kernel
theorem dL_law_1778 : decode cL_law 1778 = .ok (.iload 4, 2) := by decide +kernel
theorem dL_law_1780 : decode cL_law 1780 = .ok (.iconst 1, 1) := by decide +kernel
theorem dL_law_1781 : decode cL_law 1781 = .ok (.iadd, 1) := by decide +kernel
theorem dL_law_1782 : decode cL_law 1782 = .ok (.iaload, 1) := by decide +kernel
theorem dL_law_1783 : decode cL_law 1783 = .ok (.invokevirtual 226, 3) := by decide +kernel
theorem dL_law_1786 : decode cL_law 1786 = .ok (.istore 6, 2) := by decide +kernel
theorem dL_law_1788 : decode cL_law 1788 = .ok (.aload_n 2, 1) := by decide +kernel
theorem dL_law_1789 : decode cL_law 1789 = .ok (.invokevirtual 144, 3) := by decide +kernel
theorem dL_law_1792 : decode cL_law 1792 = .ok (.iload 5, 2) := by decide +kernel
theorem dL_law_1794 : decode cL_law 1794 = .ok (.if_icmp .eq 5, 3) := by decide +kernel
theorem dL_law_1797 : decode cL_law 1797 = .ok (.iconst 0, 1) := by decide +kernel
theorem dL_law_1798 : decode cL_law 1798 = .ok (.ireturn, 1) := by decide +kernel
theorem dL_law_1799 : decode cL_law 1799 = .ok (.iload 5, 2) := by decide +kernel
theorem dL_law_1801 : decode cL_law 1801 = .ok (.ifCond .ne 15, 3) := by decide +kernel
theorem dL_law_1804 : decode cL_law 1804 = .ok (.aload_n 3, 1) := by decide +kernel
theorem dL_law_1805 : decode cL_law 1805 = .ok (.iconst 0, 1) := by decide +kernel
theorem dL_law_1806 : decode cL_law 1806 = .ok (.laload, 1) := by decide +kernel
theorem dL_law_1807 : decode cL_law 1807 = .ok (.iload 6, 2) := by decide +kernel
theorem dL_law_1809 : decode cL_law 1809 = .ok (.i2l, 1) := by decide +kernel
theorem dL_law_1810 : decode cL_law 1810 = .ok (.lcmp, 1) := by decide +kernel
theorem dL_law_1811 : decode cL_law 1811 = .ok (.ifCond .eq 5, 3) := by decide +kernel
theorem dL_law_1814 : decode cL_law 1814 = .ok (.iconst 0, 1) := by decide +kernel
theorem dL_law_1815 : decode cL_law 1815 = .ok (.ireturn, 1) := by decide +kernel
theorem dL_law_1816 : decode cL_law 1816 = .ok (.goto 1149, 3) := by decide +kernel
theorem dL_law_1819 : decode cL_law 1819 = .ok (.aload_n 1, 1) := by decide +kernel
theorem dL_law_1820 : decode cL_law 1820 = .ok (.aload_n 0, 1) := by decide +kernel
theorem dL_law_1821 : decode cL_law 1821 = .ok (.iload 4, 2) := by decide +kernel
theorem dL_law_1823 : decode cL_law 1823 = .ok (.iconst 1, 1) := by decide +kernel
theorem dL_law_1824 : decode cL_law 1824 = .ok (.iadd, 1) := by decide +kernel
theorem dL_law_1825 : decode cL_law 1825 = .ok (.iaload, 1) := by decide +kernel
theorem dL_law_1826 : decode cL_law 1826 = .ok (.aload_n 0, 1) := by decide +kernel
theorem dL_law_1827 : decode cL_law 1827 = .ok (.iload 4, 2) := by decide +kernel
theorem dL_law_1829 : decode cL_law 1829 = .ok (.iconst 2, 1) := by decide +kernel
theorem dL_law_1830 : decode cL_law 1830 = .ok (.iadd, 1) := by decide +kernel
theorem dL_law_1831 : decode cL_law 1831 = .ok (.iaload, 1) := by decide +kernel
theorem dL_law_1832 : decode cL_law 1832 = .ok (.aload_n 0, 1) := by decide +kernel
theorem dL_law_1833 : decode cL_law 1833 = .ok (.iload 4, 2) := by decide +kernel
theorem dL_law_1835 : decode cL_law 1835 = .ok (.iconst 3, 1) := by decide +kernel
theorem dL_law_1836 : decode cL_law 1836 = .ok (.iadd, 1) := by decide +kernel
theorem dL_law_1837 : decode cL_law 1837 = .ok (.iaload, 1) := by decide +kernel
theorem dL_law_1838 : decode cL_law 1838 = .ok (.aload_n 3, 1) := by decide +kernel
theorem dL_law_1839 : decode cL_law 1839 = .ok (.invokestatic 227, 3) := by decide +kernel
theorem dL_law_1842 : decode cL_law 1842 = .ok (.istore 5, 2) := by decide +kernel
theorem dL_law_1844 : decode cL_law 1844 = .ok (.aload_n 2, 1) := by decide +kernel
theorem dL_law_1845 : decode cL_law 1845 = .ok (.aload_n 0, 1) := by decide +kernel
theorem dL_law_1846 : decode cL_law 1846 = .ok (.iload 4, 2) := by decide +kernel
theorem dL_law_1848 : decode cL_law 1848 = .ok (.iconst 1, 1) := by decide +kernel
theorem dL_law_1849 : decode cL_law 1849 = .ok (.iadd, 1) := by decide +kernel
theorem dL_law_1850 : decode cL_law 1850 = .ok (.iaload, 1) := by decide +kernel
theorem dL_law_1851 : decode cL_law 1851 = .ok (.aload_n 0, 1) := by decide +kernel
theorem dL_law_1852 : decode cL_law 1852 = .ok (.iload 4, 2) := by decide +kernel
theorem dL_law_1854 : decode cL_law 1854 = .ok (.iconst 2, 1) := by decide +kernel
theorem dL_law_1855 : decode cL_law 1855 = .ok (.iadd, 1) := by decide +kernel
theorem dL_law_1856 : decode cL_law 1856 = .ok (.iaload, 1) := by decide +kernel
theorem dL_law_1857 : decode cL_law 1857 = .ok (.aload_n 0, 1) := by decide +kernel
theorem dL_law_1858 : decode cL_law 1858 = .ok (.iload 4, 2) := by decide +kernel
theorem dL_law_1860 : decode cL_law 1860 = .ok (.iconst 3, 1) := by decide +kernel
theorem dL_law_1861 : decode cL_law 1861 = .ok (.iadd, 1) := by decide +kernel
theorem dL_law_1862 : decode cL_law 1862 = .ok (.iaload, 1) := by decide +kernel
theorem dL_law_1863 : decode cL_law 1863 = .ok (.invokevirtual 229, 3) := by decide +kernel
theorem dL_law_1866 : decode cL_law 1866 = .ok (.istore 6, 2) := by decide +kernel
theorem dL_law_1868 : decode cL_law 1868 = .ok (.aload_n 2, 1) := by decide +kernel
theorem dL_law_1869 : decode cL_law 1869 = .ok (.invokevirtual 144, 3) := by decide +kernel
theorem dL_law_1872 : decode cL_law 1872 = .ok (.iload 5, 2) := by decide +kernel
theorem dL_law_1874 : decode cL_law 1874 = .ok (.if_icmp .eq 5, 3) := by decide +kernel
theorem dL_law_1877 : decode cL_law 1877 = .ok (.iconst 0, 1) := by decide +kernel
theorem dL_law_1878 : decode cL_law 1878 = .ok (.ireturn, 1) := by decide +kernel
theorem dL_law_1879 : decode cL_law 1879 = .ok (.iload 5, 2) := by decide +kernel
theorem dL_law_1881 : decode cL_law 1881 = .ok (.ifCond .ne 22, 3) := by decide +kernel
theorem dL_law_1884 : decode cL_law 1884 = .ok (.aload_n 3, 1) := by decide +kernel
theorem dL_law_1885 : decode cL_law 1885 = .ok (.iconst 0, 1) := by decide +kernel
theorem dL_law_1886 : decode cL_law 1886 = .ok (.laload, 1) := by decide +kernel
theorem dL_law_1887 : decode cL_law 1887 = .ok (.iload 6, 2) := by decide +kernel
theorem dL_law_1889 : decode cL_law 1889 = .ok (.ifCond .eq 7, 3) := by decide +kernel
theorem dL_law_1892 : decode cL_law 1892 = .ok (.lconst 1, 1) := by decide +kernel
theorem dL_law_1893 : decode cL_law 1893 = .ok (.goto 4, 3) := by decide +kernel
theorem dL_law_1896 : decode cL_law 1896 = .ok (.lconst 0, 1) := by decide +kernel
theorem dL_law_1897 : decode cL_law 1897 = .ok (.lcmp, 1) := by decide +kernel
theorem dL_law_1898 : decode cL_law 1898 = .ok (.ifCond .eq 5, 3) := by decide +kernel
theorem dL_law_1901 : decode cL_law 1901 = .ok (.iconst 0, 1) := by decide +kernel
theorem dL_law_1902 : decode cL_law 1902 = .ok (.ireturn, 1) := by decide +kernel
theorem dL_law_1903 : decode cL_law 1903 = .ok (.goto 1062, 3) := by decide +kernel
theorem dL_law_1906 : decode cL_law 1906 = .ok (.aload_n 1, 1) := by decide +kernel
theorem dL_law_1907 : decode cL_law 1907 = .ok (.aload_n 0, 1) := by decide +kernel
theorem dL_law_1908 : decode cL_law 1908 = .ok (.iload 4, 2) := by decide +kernel
theorem dL_law_1910 : decode cL_law 1910 = .ok (.iconst 1, 1) := by decide +kernel
theorem dL_law_1911 : decode cL_law 1911 = .ok (.iadd, 1) := by decide +kernel
theorem dL_law_1912 : decode cL_law 1912 = .ok (.iaload, 1) := by decide +kernel
theorem dL_law_1913 : decode cL_law 1913 = .ok (.aload_n 0, 1) := by decide +kernel
theorem dL_law_1914 : decode cL_law 1914 = .ok (.iload 4, 2) := by decide +kernel
theorem dL_law_1916 : decode cL_law 1916 = .ok (.iconst 2, 1) := by decide +kernel
theorem dL_law_1917 : decode cL_law 1917 = .ok (.iadd, 1) := by decide +kernel
theorem dL_law_1918 : decode cL_law 1918 = .ok (.iaload, 1) := by decide +kernel
theorem dL_law_1919 : decode cL_law 1919 = .ok (.aload_n 0, 1) := by decide +kernel
theorem dL_law_1920 : decode cL_law 1920 = .ok (.iload 4, 2) := by decide +kernel
theorem dL_law_1922 : decode cL_law 1922 = .ok (.iconst 3, 1) := by decide +kernel
theorem dL_law_1923 : decode cL_law 1923 = .ok (.iadd, 1) := by decide +kernel
theorem dL_law_1924 : decode cL_law 1924 = .ok (.iaload, 1) := by decide +kernel
theorem dL_law_1925 : decode cL_law 1925 = .ok (.aload_n 3, 1) := by decide +kernel
theorem dL_law_1926 : decode cL_law 1926 = .ok (.invokestatic 230, 3) := by decide +kernel
theorem dL_law_1929 : decode cL_law 1929 = .ok (.istore 5, 2) := by decide +kernel
theorem dL_law_1931 : decode cL_law 1931 = .ok (.aload_n 2, 1) := by decide +kernel
theorem dL_law_1932 : decode cL_law 1932 = .ok (.aload_n 0, 1) := by decide +kernel
theorem dL_law_1933 : decode cL_law 1933 = .ok (.iload 4, 2) := by decide +kernel
theorem dL_law_1935 : decode cL_law 1935 = .ok (.iconst 1, 1) := by decide +kernel
theorem dL_law_1936 : decode cL_law 1936 = .ok (.iadd, 1) := by decide +kernel
theorem dL_law_1937 : decode cL_law 1937 = .ok (.iaload, 1) := by decide +kernel
theorem dL_law_1938 : decode cL_law 1938 = .ok (.aload_n 0, 1) := by decide +kernel
theorem dL_law_1939 : decode cL_law 1939 = .ok (.iload 4, 2) := by decide +kernel
theorem dL_law_1941 : decode cL_law 1941 = .ok (.iconst 2, 1) := by decide +kernel
theorem dL_law_1942 : decode cL_law 1942 = .ok (.iadd, 1) := by decide +kernel
theorem dL_law_1943 : decode cL_law 1943 = .ok (.iaload, 1) := by decide +kernel
theorem dL_law_1944 : decode cL_law 1944 = .ok (.aload_n 0, 1) := by decide +kernel
theorem dL_law_1945 : decode cL_law 1945 = .ok (.iload 4, 2) := by decide +kernel
theorem dL_law_1947 : decode cL_law 1947 = .ok (.iconst 3, 1) := by decide +kernel
theorem dL_law_1948 : decode cL_law 1948 = .ok (.iadd, 1) := by decide +kernel
theorem dL_law_1949 : decode cL_law 1949 = .ok (.iaload, 1) := by decide +kernel
theorem dL_law_1950 : decode cL_law 1950 = .ok (.invokevirtual 232, 3) := by decide +kernel
theorem dL_law_1953 : decode cL_law 1953 = .ok (.istore 6, 2) := by decide +kernel
theorem dL_law_1955 : decode cL_law 1955 = .ok (.aload_n 2, 1) := by decide +kernel
theorem dL_law_1956 : decode cL_law 1956 = .ok (.invokevirtual 144, 3) := by decide +kernel
theorem dL_law_1959 : decode cL_law 1959 = .ok (.iload 5, 2) := by decide +kernel
theorem dL_law_1961 : decode cL_law 1961 = .ok (.if_icmp .eq 5, 3) := by decide +kernel
theorem dL_law_1964 : decode cL_law 1964 = .ok (.iconst 0, 1) := by decide +kernel
theorem dL_law_1965 : decode cL_law 1965 = .ok (.ireturn, 1) := by decide +kernel
theorem dL_law_1966 : decode cL_law 1966 = .ok (.iload 5, 2) := by decide +kernel
theorem dL_law_1968 : decode cL_law 1968 = .ok (.ifCond .ne 15, 3) := by decide +kernel
theorem dL_law_1971 : decode cL_law 1971 = .ok (.aload_n 3, 1) := by decide +kernel
theorem dL_law_1972 : decode cL_law 1972 = .ok (.iconst 0, 1) := by decide +kernel
theorem dL_law_1973 : decode cL_law 1973 = .ok (.laload, 1) := by decide +kernel
theorem dL_law_1974 : decode cL_law 1974 = .ok (.iload 6, 2) := by decide +kernel
theorem dL_law_1976 : decode cL_law 1976 = .ok (.i2l, 1) := by decide +kernel
theorem dL_law_1977 : decode cL_law 1977 = .ok (.lcmp, 1) := by decide +kernel
theorem dL_law_1978 : decode cL_law 1978 = .ok (.ifCond .eq 5, 3) := by decide +kernel
theorem dL_law_1981 : decode cL_law 1981 = .ok (.iconst 0, 1) := by decide +kernel
theorem dL_law_1982 : decode cL_law 1982 = .ok (.ireturn, 1) := by decide +kernel
theorem dL_law_1983 : decode cL_law 1983 = .ok (.goto 982, 3) := by decide +kernel
theorem dL_law_1986 : decode cL_law 1986 = .ok (.aload_n 1, 1) := by decide +kernel
theorem dL_law_1987 : decode cL_law 1987 = .ok (.aload_n 0, 1) := by decide +kernel
theorem dL_law_1988 : decode cL_law 1988 = .ok (.iload 4, 2) := by decide +kernel
theorem dL_law_1990 : decode cL_law 1990 = .ok (.iconst 1, 1) := by decide +kernel
theorem dL_law_1991 : decode cL_law 1991 = .ok (.iadd, 1) := by decide +kernel
theorem dL_law_1992 : decode cL_law 1992 = .ok (.iaload, 1) := by decide +kernel
theorem dL_law_1993 : decode cL_law 1993 = .ok (.aload_n 0, 1) := by decide +kernel
theorem dL_law_1994 : decode cL_law 1994 = .ok (.iload 4, 2) := by decide +kernel
theorem dL_law_1996 : decode cL_law 1996 = .ok (.iconst 2, 1) := by decide +kernel
theorem dL_law_1997 : decode cL_law 1997 = .ok (.iadd, 1) := by decide +kernel
theorem dL_law_1998 : decode cL_law 1998 = .ok (.iaload, 1) := by decide +kernel
theorem dL_law_1999 : decode cL_law 1999 = .ok (.aload_n 0, 1) := by decide +kernel
theorem dL_law_2000 : decode cL_law 2000 = .ok (.iload 4, 2) := by decide +kernel
theorem dL_law_2002 : decode cL_law 2002 = .ok (.iconst 3, 1) := by decide +kernel
theorem dL_law_2003 : decode cL_law 2003 = .ok (.iadd, 1) := by decide +kernel
theorem dL_law_2004 : decode cL_law 2004 = .ok (.iaload, 1) := by decide +kernel
theorem dL_law_2005 : decode cL_law 2005 = .ok (.aload_n 0, 1) := by decide +kernel
theorem dL_law_2006 : decode cL_law 2006 = .ok (.iload 4, 2) := by decide +kernel
theorem dL_law_2008 : decode cL_law 2008 = .ok (.iconst 4, 1) := by decide +kernel
theorem dL_law_2009 : decode cL_law 2009 = .ok (.iadd, 1) := by decide +kernel
theorem dL_law_2010 : decode cL_law 2010 = .ok (.iaload, 1) := by decide +kernel
theorem dL_law_2011 : decode cL_law 2011 = .ok (.aload_n 3, 1) := by decide +kernel
theorem dL_law_2012 : decode cL_law 2012 = .ok (.invokestatic 233, 3) := by decide +kernel
theorem dL_law_2015 : decode cL_law 2015 = .ok (.istore 5, 2) := by decide +kernel
theorem dL_law_2017 : decode cL_law 2017 = .ok (.aload_n 2, 1) := by decide +kernel
theorem dL_law_2018 : decode cL_law 2018 = .ok (.aload_n 0, 1) := by decide +kernel
theorem dL_law_2019 : decode cL_law 2019 = .ok (.iload 4, 2) := by decide +kernel
theorem dL_law_2021 : decode cL_law 2021 = .ok (.iconst 1, 1) := by decide +kernel
theorem dL_law_2022 : decode cL_law 2022 = .ok (.iadd, 1) := by decide +kernel
theorem dL_law_2023 : decode cL_law 2023 = .ok (.iaload, 1) := by decide +kernel
theorem dL_law_2024 : decode cL_law 2024 = .ok (.aload_n 0, 1) := by decide +kernel
theorem dL_law_2025 : decode cL_law 2025 = .ok (.iload 4, 2) := by decide +kernel
theorem dL_law_2027 : decode cL_law 2027 = .ok (.iconst 2, 1) := by decide +kernel
theorem dL_law_2028 : decode cL_law 2028 = .ok (.iadd, 1) := by decide +kernel
theorem dL_law_2029 : decode cL_law 2029 = .ok (.iaload, 1) := by decide +kernel
theorem dL_law_2030 : decode cL_law 2030 = .ok (.aload_n 0, 1) := by decide +kernel
theorem dL_law_2031 : decode cL_law 2031 = .ok (.iload 4, 2) := by decide +kernel
theorem dL_law_2033 : decode cL_law 2033 = .ok (.iconst 3, 1) := by decide +kernel
theorem dL_law_2034 : decode cL_law 2034 = .ok (.iadd, 1) := by decide +kernel
theorem dL_law_2035 : decode cL_law 2035 = .ok (.iaload, 1) := by decide +kernel
theorem dL_law_2036 : decode cL_law 2036 = .ok (.aload_n 0, 1) := by decide +kernel
theorem dL_law_2037 : decode cL_law 2037 = .ok (.iload 4, 2) := by decide +kernel
theorem dL_law_2039 : decode cL_law 2039 = .ok (.iconst 4, 1) := by decide +kernel
theorem dL_law_2040 : decode cL_law 2040 = .ok (.iadd, 1) := by decide +kernel
theorem dL_law_2041 : decode cL_law 2041 = .ok (.iaload, 1) := by decide +kernel
theorem dL_law_2042 : decode cL_law 2042 = .ok (.invokevirtual 235, 3) := by decide +kernel
theorem dL_law_2045 : decode cL_law 2045 = .ok (.istore 6, 2) := by decide +kernel
theorem dL_law_2047 : decode cL_law 2047 = .ok (.aload_n 2, 1) := by decide +kernel
theorem dL_law_2048 : decode cL_law 2048 = .ok (.invokevirtual 144, 3) := by decide +kernel
theorem dL_law_2051 : decode cL_law 2051 = .ok (.iload 5, 2) := by decide +kernel
theorem dL_law_2053 : decode cL_law 2053 = .ok (.if_icmp .eq 5, 3) := by decide +kernel
theorem dL_law_2056 : decode cL_law 2056 = .ok (.iconst 0, 1) := by decide +kernel
theorem dL_law_2057 : decode cL_law 2057 = .ok (.ireturn, 1) := by decide +kernel
theorem dL_law_2058 : decode cL_law 2058 = .ok (.iload 5, 2) := by decide +kernel
theorem dL_law_2060 : decode cL_law 2060 = .ok (.ifCond .ne 15, 3) := by decide +kernel
theorem dL_law_2063 : decode cL_law 2063 = .ok (.aload_n 3, 1) := by decide +kernel
theorem dL_law_2064 : decode cL_law 2064 = .ok (.iconst 0, 1) := by decide +kernel
theorem dL_law_2065 : decode cL_law 2065 = .ok (.laload, 1) := by decide +kernel
theorem dL_law_2066 : decode cL_law 2066 = .ok (.iload 6, 2) := by decide +kernel
theorem dL_law_2068 : decode cL_law 2068 = .ok (.i2l, 1) := by decide +kernel
theorem dL_law_2069 : decode cL_law 2069 = .ok (.lcmp, 1) := by decide +kernel
theorem dL_law_2070 : decode cL_law 2070 = .ok (.ifCond .eq 5, 3) := by decide +kernel
theorem dL_law_2073 : decode cL_law 2073 = .ok (.iconst 0, 1) := by decide +kernel
theorem dL_law_2074 : decode cL_law 2074 = .ok (.ireturn, 1) := by decide +kernel
theorem dL_law_2075 : decode cL_law 2075 = .ok (.goto 890, 3) := by decide +kernel
theorem dL_law_2078 : decode cL_law 2078 = .ok (.aload_n 1, 1) := by decide +kernel
theorem dL_law_2079 : decode cL_law 2079 = .ok (.aload_n 0, 1) := by decide +kernel
theorem dL_law_2080 : decode cL_law 2080 = .ok (.iload 4, 2) := by decide +kernel
theorem dL_law_2082 : decode cL_law 2082 = .ok (.iconst 1, 1) := by decide +kernel
theorem dL_law_2083 : decode cL_law 2083 = .ok (.iadd, 1) := by decide +kernel
theorem dL_law_2084 : decode cL_law 2084 = .ok (.iaload, 1) := by decide +kernel
theorem dL_law_2085 : decode cL_law 2085 = .ok (.aload_n 0, 1) := by decide +kernel
theorem dL_law_2086 : decode cL_law 2086 = .ok (.iload 4, 2) := by decide +kernel
theorem dL_law_2088 : decode cL_law 2088 = .ok (.iconst 2, 1) := by decide +kernel
theorem dL_law_2089 : decode cL_law 2089 = .ok (.iadd, 1) := by decide +kernel
theorem dL_law_2090 : decode cL_law 2090 = .ok (.iaload, 1) := by decide +kernel
theorem dL_law_2091 : decode cL_law 2091 = .ok (.ifCond .eq 7, 3) := by decide +kernel
theorem dL_law_2094 : decode cL_law 2094 = .ok (.iconst 1, 1) := by decide +kernel
theorem dL_law_2095 : decode cL_law 2095 = .ok (.goto 4, 3) := by decide +kernel
theorem dL_law_2098 : decode cL_law 2098 = .ok (.iconst 0, 1) := by decide +kernel
theorem dL_law_2099 : decode cL_law 2099 = .ok (.aload_n 3, 1) := by decide +kernel
theorem dL_law_2100 : decode cL_law 2100 = .ok (.invokestatic 236, 3) := by decide +kernel
theorem dL_law_2103 : decode cL_law 2103 = .ok (.istore 5, 2) := by decide +kernel
theorem dL_law_2105 : decode cL_law 2105 = .ok (.aload_n 2, 1) := by decide +kernel
theorem dL_law_2106 : decode cL_law 2106 = .ok (.aload_n 0, 1) := by decide +kernel
theorem dL_law_2107 : decode cL_law 2107 = .ok (.iload 4, 2) := by decide +kernel
theorem dL_law_2109 : decode cL_law 2109 = .ok (.iconst 1, 1) := by decide +kernel
theorem dL_law_2110 : decode cL_law 2110 = .ok (.iadd, 1) := by decide +kernel
theorem dL_law_2111 : decode cL_law 2111 = .ok (.iaload, 1) := by decide +kernel
theorem dL_law_2112 : decode cL_law 2112 = .ok (.aload_n 0, 1) := by decide +kernel
theorem dL_law_2113 : decode cL_law 2113 = .ok (.iload 4, 2) := by decide +kernel
theorem dL_law_2115 : decode cL_law 2115 = .ok (.iconst 2, 1) := by decide +kernel
theorem dL_law_2116 : decode cL_law 2116 = .ok (.iadd, 1) := by decide +kernel
theorem dL_law_2117 : decode cL_law 2117 = .ok (.iaload, 1) := by decide +kernel
theorem dL_law_2118 : decode cL_law 2118 = .ok (.ifCond .eq 7, 3) := by decide +kernel
theorem dL_law_2121 : decode cL_law 2121 = .ok (.iconst 1, 1) := by decide +kernel
theorem dL_law_2122 : decode cL_law 2122 = .ok (.goto 4, 3) := by decide +kernel
theorem dL_law_2125 : decode cL_law 2125 = .ok (.iconst 0, 1) := by decide +kernel
theorem dL_law_2126 : decode cL_law 2126 = .ok (.invokevirtual 239, 3) := by decide +kernel
theorem dL_law_2129 : decode cL_law 2129 = .ok (.istore 6, 2) := by decide +kernel
theorem dL_law_2131 : decode cL_law 2131 = .ok (.aload_n 2, 1) := by decide +kernel
theorem dL_law_2132 : decode cL_law 2132 = .ok (.invokevirtual 144, 3) := by decide +kernel
theorem dL_law_2135 : decode cL_law 2135 = .ok (.iload 5, 2) := by decide +kernel
theorem dL_law_2137 : decode cL_law 2137 = .ok (.if_icmp .eq 5, 3) := by decide +kernel
theorem dL_law_2140 : decode cL_law 2140 = .ok (.iconst 0, 1) := by decide +kernel
theorem dL_law_2141 : decode cL_law 2141 = .ok (.ireturn, 1) := by decide +kernel
theorem dL_law_2142 : decode cL_law 2142 = .ok (.iload 5, 2) := by decide +kernel
theorem dL_law_2144 : decode cL_law 2144 = .ok (.ifCond .ne 22, 3) := by decide +kernel
theorem dL_law_2147 : decode cL_law 2147 = .ok (.aload_n 3, 1) := by decide +kernel
theorem dL_law_2148 : decode cL_law 2148 = .ok (.iconst 0, 1) := by decide +kernel
theorem dL_law_2149 : decode cL_law 2149 = .ok (.laload, 1) := by decide +kernel
theorem dL_law_2150 : decode cL_law 2150 = .ok (.iload 6, 2) := by decide +kernel
theorem dL_law_2152 : decode cL_law 2152 = .ok (.ifCond .eq 7, 3) := by decide +kernel
theorem dL_law_2155 : decode cL_law 2155 = .ok (.lconst 1, 1) := by decide +kernel
theorem dL_law_2156 : decode cL_law 2156 = .ok (.goto 4, 3) := by decide +kernel
theorem dL_law_2159 : decode cL_law 2159 = .ok (.lconst 0, 1) := by decide +kernel
theorem dL_law_2160 : decode cL_law 2160 = .ok (.lcmp, 1) := by decide +kernel
theorem dL_law_2161 : decode cL_law 2161 = .ok (.ifCond .eq 5, 3) := by decide +kernel
theorem dL_law_2164 : decode cL_law 2164 = .ok (.iconst 0, 1) := by decide +kernel
theorem dL_law_2165 : decode cL_law 2165 = .ok (.ireturn, 1) := by decide +kernel
theorem dL_law_2166 : decode cL_law 2166 = .ok (.goto 799, 3) := by decide +kernel
theorem dL_law_2169 : decode cL_law 2169 = .ok (.aload_n 1, 1) := by decide +kernel
theorem dL_law_2170 : decode cL_law 2170 = .ok (.aload_n 0, 1) := by decide +kernel
theorem dL_law_2171 : decode cL_law 2171 = .ok (.iload 4, 2) := by decide +kernel
theorem dL_law_2173 : decode cL_law 2173 = .ok (.iconst 1, 1) := by decide +kernel
theorem dL_law_2174 : decode cL_law 2174 = .ok (.iadd, 1) := by decide +kernel
theorem dL_law_2175 : decode cL_law 2175 = .ok (.iaload, 1) := by decide +kernel
theorem dL_law_2176 : decode cL_law 2176 = .ok (.aload_n 0, 1) := by decide +kernel
theorem dL_law_2177 : decode cL_law 2177 = .ok (.iload 4, 2) := by decide +kernel
theorem dL_law_2179 : decode cL_law 2179 = .ok (.iconst 2, 1) := by decide +kernel
theorem dL_law_2180 : decode cL_law 2180 = .ok (.iadd, 1) := by decide +kernel
theorem dL_law_2181 : decode cL_law 2181 = .ok (.iaload, 1) := by decide +kernel
theorem dL_law_2182 : decode cL_law 2182 = .ok (.aload_n 3, 1) := by decide +kernel
theorem dL_law_2183 : decode cL_law 2183 = .ok (.invokestatic 240, 3) := by decide +kernel
theorem dL_law_2186 : decode cL_law 2186 = .ok (.istore 5, 2) := by decide +kernel
theorem dL_law_2188 : decode cL_law 2188 = .ok (.aload_n 2, 1) := by decide +kernel
theorem dL_law_2189 : decode cL_law 2189 = .ok (.aload_n 0, 1) := by decide +kernel
theorem dL_law_2190 : decode cL_law 2190 = .ok (.iload 4, 2) := by decide +kernel
theorem dL_law_2192 : decode cL_law 2192 = .ok (.iconst 1, 1) := by decide +kernel
theorem dL_law_2193 : decode cL_law 2193 = .ok (.iadd, 1) := by decide +kernel
theorem dL_law_2194 : decode cL_law 2194 = .ok (.iaload, 1) := by decide +kernel
theorem dL_law_2195 : decode cL_law 2195 = .ok (.aload_n 0, 1) := by decide +kernel
theorem dL_law_2196 : decode cL_law 2196 = .ok (.iload 4, 2) := by decide +kernel
theorem dL_law_2198 : decode cL_law 2198 = .ok (.iconst 2, 1) := by decide +kernel
theorem dL_law_2199 : decode cL_law 2199 = .ok (.iadd, 1) := by decide +kernel
theorem dL_law_2200 : decode cL_law 2200 = .ok (.iaload, 1) := by decide +kernel
theorem dL_law_2201 : decode cL_law 2201 = .ok (.invokevirtual 242, 3) := by decide +kernel
theorem dL_law_2204 : decode cL_law 2204 = .ok (.istore 6, 2) := by decide +kernel
theorem dL_law_2206 : decode cL_law 2206 = .ok (.aload_n 2, 1) := by decide +kernel
theorem dL_law_2207 : decode cL_law 2207 = .ok (.invokevirtual 144, 3) := by decide +kernel
theorem dL_law_2210 : decode cL_law 2210 = .ok (.iload 5, 2) := by decide +kernel
theorem dL_law_2212 : decode cL_law 2212 = .ok (.if_icmp .eq 5, 3) := by decide +kernel
theorem dL_law_2215 : decode cL_law 2215 = .ok (.iconst 0, 1) := by decide +kernel
theorem dL_law_2216 : decode cL_law 2216 = .ok (.ireturn, 1) := by decide +kernel
theorem dL_law_2217 : decode cL_law 2217 = .ok (.iload 5, 2) := by decide +kernel
theorem dL_law_2219 : decode cL_law 2219 = .ok (.ifCond .ne 15, 3) := by decide +kernel
theorem dL_law_2222 : decode cL_law 2222 = .ok (.aload_n 3, 1) := by decide +kernel
theorem dL_law_2223 : decode cL_law 2223 = .ok (.iconst 0, 1) := by decide +kernel
theorem dL_law_2224 : decode cL_law 2224 = .ok (.laload, 1) := by decide +kernel
theorem dL_law_2225 : decode cL_law 2225 = .ok (.iload 6, 2) := by decide +kernel
theorem dL_law_2227 : decode cL_law 2227 = .ok (.i2l, 1) := by decide +kernel
theorem dL_law_2228 : decode cL_law 2228 = .ok (.lcmp, 1) := by decide +kernel
theorem dL_law_2229 : decode cL_law 2229 = .ok (.ifCond .eq 5, 3) := by decide +kernel
theorem dL_law_2232 : decode cL_law 2232 = .ok (.iconst 0, 1) := by decide +kernel
theorem dL_law_2233 : decode cL_law 2233 = .ok (.ireturn, 1) := by decide +kernel
theorem dL_law_2234 : decode cL_law 2234 = .ok (.goto 731, 3) := by decide +kernel
theorem dL_law_2237 : decode cL_law 2237 = .ok (.aload_n 1, 1) := by decide +kernel
theorem dL_law_2238 : decode cL_law 2238 = .ok (.aload_n 0, 1) := by decide +kernel
theorem dL_law_2239 : decode cL_law 2239 = .ok (.iload 4, 2) := by decide +kernel
theorem dL_law_2241 : decode cL_law 2241 = .ok (.iconst 1, 1) := by decide +kernel
theorem dL_law_2242 : decode cL_law 2242 = .ok (.iadd, 1) := by decide +kernel
theorem dL_law_2243 : decode cL_law 2243 = .ok (.iaload, 1) := by decide +kernel
theorem dL_law_2244 : decode cL_law 2244 = .ok (.aload_n 3, 1) := by decide +kernel
theorem dL_law_2245 : decode cL_law 2245 = .ok (.invokestatic 243, 3) := by decide +kernel
theorem dL_law_2248 : decode cL_law 2248 = .ok (.istore 5, 2) := by decide +kernel
theorem dL_law_2250 : decode cL_law 2250 = .ok (.aload_n 2, 1) := by decide +kernel
theorem dL_law_2251 : decode cL_law 2251 = .ok (.aload_n 0, 1) := by decide +kernel
theorem dL_law_2252 : decode cL_law 2252 = .ok (.iload 4, 2) := by decide +kernel
theorem dL_law_2254 : decode cL_law 2254 = .ok (.iconst 1, 1) := by decide +kernel
theorem dL_law_2255 : decode cL_law 2255 = .ok (.iadd, 1) := by decide +kernel
theorem dL_law_2256 : decode cL_law 2256 = .ok (.iaload, 1) := by decide +kernel
theorem dL_law_2257 : decode cL_law 2257 = .ok (.invokevirtual 245, 3) := by decide +kernel
theorem dL_law_2260 : decode cL_law 2260 = .ok (.istore 6, 2) := by decide +kernel
theorem dL_law_2262 : decode cL_law 2262 = .ok (.aload_n 2, 1) := by decide +kernel
theorem dL_law_2263 : decode cL_law 2263 = .ok (.invokevirtual 144, 3) := by decide +kernel
theorem dL_law_2266 : decode cL_law 2266 = .ok (.iload 5, 2) := by decide +kernel
theorem dL_law_2268 : decode cL_law 2268 = .ok (.if_icmp .eq 5, 3) := by decide +kernel
theorem dL_law_2271 : decode cL_law 2271 = .ok (.iconst 0, 1) := by decide +kernel
theorem dL_law_2272 : decode cL_law 2272 = .ok (.ireturn, 1) := by decide +kernel
theorem dL_law_2273 : decode cL_law 2273 = .ok (.iload 5, 2) := by decide +kernel
theorem dL_law_2275 : decode cL_law 2275 = .ok (.ifCond .ne 15, 3) := by decide +kernel
theorem dL_law_2278 : decode cL_law 2278 = .ok (.aload_n 3, 1) := by decide +kernel
theorem dL_law_2279 : decode cL_law 2279 = .ok (.iconst 0, 1) := by decide +kernel
theorem dL_law_2280 : decode cL_law 2280 = .ok (.laload, 1) := by decide +kernel
theorem dL_law_2281 : decode cL_law 2281 = .ok (.iload 6, 2) := by decide +kernel
theorem dL_law_2283 : decode cL_law 2283 = .ok (.i2l, 1) := by decide +kernel
theorem dL_law_2284 : decode cL_law 2284 = .ok (.lcmp, 1) := by decide +kernel
theorem dL_law_2285 : decode cL_law 2285 = .ok (.ifCond .eq 5, 3) := by decide +kernel
theorem dL_law_2288 : decode cL_law 2288 = .ok (.iconst 0, 1) := by decide +kernel
theorem dL_law_2289 : decode cL_law 2289 = .ok (.ireturn, 1) := by decide +kernel
theorem dL_law_2290 : decode cL_law 2290 = .ok (.goto 675, 3) := by decide +kernel
theorem dL_law_2293 : decode cL_law 2293 = .ok (.aload_n 1, 1) := by decide +kernel
theorem dL_law_2294 : decode cL_law 2294 = .ok (.aload_n 0, 1) := by decide +kernel
theorem dL_law_2295 : decode cL_law 2295 = .ok (.iload 4, 2) := by decide +kernel
theorem dL_law_2297 : decode cL_law 2297 = .ok (.iconst 1, 1) := by decide +kernel
theorem dL_law_2298 : decode cL_law 2298 = .ok (.iadd, 1) := by decide +kernel
theorem dL_law_2299 : decode cL_law 2299 = .ok (.iaload, 1) := by decide +kernel
theorem dL_law_2300 : decode cL_law 2300 = .ok (.aload_n 0, 1) := by decide +kernel
theorem dL_law_2301 : decode cL_law 2301 = .ok (.iload 4, 2) := by decide +kernel
theorem dL_law_2303 : decode cL_law 2303 = .ok (.iconst 2, 1) := by decide +kernel
theorem dL_law_2304 : decode cL_law 2304 = .ok (.iadd, 1) := by decide +kernel
theorem dL_law_2305 : decode cL_law 2305 = .ok (.iaload, 1) := by decide +kernel
theorem dL_law_2306 : decode cL_law 2306 = .ok (.aload_n 0, 1) := by decide +kernel
theorem dL_law_2307 : decode cL_law 2307 = .ok (.iload 4, 2) := by decide +kernel
theorem dL_law_2309 : decode cL_law 2309 = .ok (.iconst 3, 1) := by decide +kernel
theorem dL_law_2310 : decode cL_law 2310 = .ok (.iadd, 1) := by decide +kernel
theorem dL_law_2311 : decode cL_law 2311 = .ok (.iaload, 1) := by decide +kernel
theorem dL_law_2312 : decode cL_law 2312 = .ok (.aload_n 0, 1) := by decide +kernel
theorem dL_law_2313 : decode cL_law 2313 = .ok (.iload 4, 2) := by decide +kernel
theorem dL_law_2315 : decode cL_law 2315 = .ok (.iconst 4, 1) := by decide +kernel
theorem dL_law_2316 : decode cL_law 2316 = .ok (.iadd, 1) := by decide +kernel
theorem dL_law_2317 : decode cL_law 2317 = .ok (.iaload, 1) := by decide +kernel
theorem dL_law_2318 : decode cL_law 2318 = .ok (.aload_n 0, 1) := by decide +kernel
theorem dL_law_2319 : decode cL_law 2319 = .ok (.iload 4, 2) := by decide +kernel
theorem dL_law_2321 : decode cL_law 2321 = .ok (.iconst 5, 1) := by decide +kernel
theorem dL_law_2322 : decode cL_law 2322 = .ok (.iadd, 1) := by decide +kernel
theorem dL_law_2323 : decode cL_law 2323 = .ok (.iaload, 1) := by decide +kernel
theorem dL_law_2324 : decode cL_law 2324 = .ok (.ifCond .eq 7, 3) := by decide +kernel
theorem dL_law_2327 : decode cL_law 2327 = .ok (.iconst 1, 1) := by decide +kernel
theorem dL_law_2328 : decode cL_law 2328 = .ok (.goto 4, 3) := by decide +kernel
theorem dL_law_2331 : decode cL_law 2331 = .ok (.iconst 0, 1) := by decide +kernel
theorem dL_law_2332 : decode cL_law 2332 = .ok (.aload_n 3, 1) := by decide +kernel
theorem dL_law_2333 : decode cL_law 2333 = .ok (.invokestatic 246, 3) := by decide +kernel
theorem dL_law_2336 : decode cL_law 2336 = .ok (.istore 5, 2) := by decide +kernel
theorem dL_law_2338 : decode cL_law 2338 = .ok (.aload_n 2, 1) := by decide +kernel
theorem dL_law_2339 : decode cL_law 2339 = .ok (.aload_n 0, 1) := by decide +kernel
theorem dL_law_2340 : decode cL_law 2340 = .ok (.iload 4, 2) := by decide +kernel
theorem dL_law_2342 : decode cL_law 2342 = .ok (.iconst 1, 1) := by decide +kernel
theorem dL_law_2343 : decode cL_law 2343 = .ok (.iadd, 1) := by decide +kernel
theorem dL_law_2344 : decode cL_law 2344 = .ok (.iaload, 1) := by decide +kernel
theorem dL_law_2345 : decode cL_law 2345 = .ok (.aload_n 0, 1) := by decide +kernel
theorem dL_law_2346 : decode cL_law 2346 = .ok (.iload 4, 2) := by decide +kernel
theorem dL_law_2348 : decode cL_law 2348 = .ok (.iconst 2, 1) := by decide +kernel
theorem dL_law_2349 : decode cL_law 2349 = .ok (.iadd, 1) := by decide +kernel
theorem dL_law_2350 : decode cL_law 2350 = .ok (.iaload, 1) := by decide +kernel
theorem dL_law_2351 : decode cL_law 2351 = .ok (.aload_n 0, 1) := by decide +kernel
theorem dL_law_2352 : decode cL_law 2352 = .ok (.iload 4, 2) := by decide +kernel
theorem dL_law_2354 : decode cL_law 2354 = .ok (.iconst 3, 1) := by decide +kernel
theorem dL_law_2355 : decode cL_law 2355 = .ok (.iadd, 1) := by decide +kernel
theorem dL_law_2356 : decode cL_law 2356 = .ok (.iaload, 1) := by decide +kernel
theorem dL_law_2357 : decode cL_law 2357 = .ok (.aload_n 0, 1) := by decide +kernel
theorem dL_law_2358 : decode cL_law 2358 = .ok (.iload 4, 2) := by decide +kernel
theorem dL_law_2360 : decode cL_law 2360 = .ok (.iconst 4, 1) := by decide +kernel
theorem dL_law_2361 : decode cL_law 2361 = .ok (.iadd, 1) := by decide +kernel
theorem dL_law_2362 : decode cL_law 2362 = .ok (.iaload, 1) := by decide +kernel
theorem dL_law_2363 : decode cL_law 2363 = .ok (.aload_n 0, 1) := by decide +kernel
theorem dL_law_2364 : decode cL_law 2364 = .ok (.iload 4, 2) := by decide +kernel
theorem dL_law_2366 : decode cL_law 2366 = .ok (.iconst 5, 1) := by decide +kernel
theorem dL_law_2367 : decode cL_law 2367 = .ok (.iadd, 1) := by decide +kernel
theorem dL_law_2368 : decode cL_law 2368 = .ok (.iaload, 1) := by decide +kernel
theorem dL_law_2369 : decode cL_law 2369 = .ok (.ifCond .eq 7, 3) := by decide +kernel
theorem dL_law_2372 : decode cL_law 2372 = .ok (.iconst 1, 1) := by decide +kernel
theorem dL_law_2373 : decode cL_law 2373 = .ok (.goto 4, 3) := by decide +kernel
theorem dL_law_2376 : decode cL_law 2376 = .ok (.iconst 0, 1) := by decide +kernel
theorem dL_law_2377 : decode cL_law 2377 = .ok (.invokevirtual 249, 3) := by decide +kernel
theorem dL_law_2380 : decode cL_law 2380 = .ok (.istore 6, 2) := by decide +kernel
theorem dL_law_2382 : decode cL_law 2382 = .ok (.aload_n 2, 1) := by decide +kernel
theorem dL_law_2383 : decode cL_law 2383 = .ok (.invokevirtual 144, 3) := by decide +kernel
theorem dL_law_2386 : decode cL_law 2386 = .ok (.iload 5, 2) := by decide +kernel
theorem dL_law_2388 : decode cL_law 2388 = .ok (.if_icmp .eq 5, 3) := by decide +kernel
theorem dL_law_2391 : decode cL_law 2391 = .ok (.iconst 0, 1) := by decide +kernel
theorem dL_law_2392 : decode cL_law 2392 = .ok (.ireturn, 1) := by decide +kernel
theorem dL_law_2393 : decode cL_law 2393 = .ok (.iload 5, 2) := by decide +kernel
theorem dL_law_2395 : decode cL_law 2395 = .ok (.ifCond .ne 15, 3) := by decide +kernel
theorem dL_law_2398 : decode cL_law 2398 = .ok (.aload_n 3, 1) := by decide +kernel
theorem dL_law_2399 : decode cL_law 2399 = .ok (.iconst 0, 1) := by decide +kernel
theorem dL_law_2400 : decode cL_law 2400 = .ok (.laload, 1) := by decide +kernel
theorem dL_law_2401 : decode cL_law 2401 = .ok (.iload 6, 2) := by decide +kernel
theorem dL_law_2403 : decode cL_law 2403 = .ok (.i2l, 1) := by decide +kernel
theorem dL_law_2404 : decode cL_law 2404 = .ok (.lcmp, 1) := by decide +kernel
theorem dL_law_2405 : decode cL_law 2405 = .ok (.ifCond .eq 5, 3) := by decide +kernel
theorem dL_law_2408 : decode cL_law 2408 = .ok (.iconst 0, 1) := by decide +kernel
theorem dL_law_2409 : decode cL_law 2409 = .ok (.ireturn, 1) := by decide +kernel
theorem dL_law_2410 : decode cL_law 2410 = .ok (.goto 555, 3) := by decide +kernel
theorem dL_law_2413 : decode cL_law 2413 = .ok (.aload_n 1, 1) := by decide +kernel
theorem dL_law_2414 : decode cL_law 2414 = .ok (.aload_n 0, 1) := by decide +kernel
theorem dL_law_2415 : decode cL_law 2415 = .ok (.iload 4, 2) := by decide +kernel
theorem dL_law_2417 : decode cL_law 2417 = .ok (.iconst 1, 1) := by decide +kernel
theorem dL_law_2418 : decode cL_law 2418 = .ok (.iadd, 1) := by decide +kernel
theorem dL_law_2419 : decode cL_law 2419 = .ok (.iaload, 1) := by decide +kernel
theorem dL_law_2420 : decode cL_law 2420 = .ok (.aload_n 0, 1) := by decide +kernel
theorem dL_law_2421 : decode cL_law 2421 = .ok (.iload 4, 2) := by decide +kernel
theorem dL_law_2423 : decode cL_law 2423 = .ok (.iconst 2, 1) := by decide +kernel
theorem dL_law_2424 : decode cL_law 2424 = .ok (.iadd, 1) := by decide +kernel
theorem dL_law_2425 : decode cL_law 2425 = .ok (.iaload, 1) := by decide +kernel
theorem dL_law_2426 : decode cL_law 2426 = .ok (.aload_n 0, 1) := by decide +kernel
theorem dL_law_2427 : decode cL_law 2427 = .ok (.iload 4, 2) := by decide +kernel
theorem dL_law_2429 : decode cL_law 2429 = .ok (.iconst 3, 1) := by decide +kernel
theorem dL_law_2430 : decode cL_law 2430 = .ok (.iadd, 1) := by decide +kernel
theorem dL_law_2431 : decode cL_law 2431 = .ok (.iaload, 1) := by decide +kernel
theorem dL_law_2432 : decode cL_law 2432 = .ok (.aload_n 3, 1) := by decide +kernel
theorem dL_law_2433 : decode cL_law 2433 = .ok (.invokestatic 250, 3) := by decide +kernel
theorem dL_law_2436 : decode cL_law 2436 = .ok (.istore 5, 2) := by decide +kernel
theorem dL_law_2438 : decode cL_law 2438 = .ok (.aload_n 2, 1) := by decide +kernel
theorem dL_law_2439 : decode cL_law 2439 = .ok (.aload_n 0, 1) := by decide +kernel
theorem dL_law_2440 : decode cL_law 2440 = .ok (.iload 4, 2) := by decide +kernel
theorem dL_law_2442 : decode cL_law 2442 = .ok (.iconst 1, 1) := by decide +kernel
theorem dL_law_2443 : decode cL_law 2443 = .ok (.iadd, 1) := by decide +kernel
theorem dL_law_2444 : decode cL_law 2444 = .ok (.iaload, 1) := by decide +kernel
theorem dL_law_2445 : decode cL_law 2445 = .ok (.aload_n 0, 1) := by decide +kernel
theorem dL_law_2446 : decode cL_law 2446 = .ok (.iload 4, 2) := by decide +kernel
theorem dL_law_2448 : decode cL_law 2448 = .ok (.iconst 2, 1) := by decide +kernel
theorem dL_law_2449 : decode cL_law 2449 = .ok (.iadd, 1) := by decide +kernel
theorem dL_law_2450 : decode cL_law 2450 = .ok (.iaload, 1) := by decide +kernel
theorem dL_law_2451 : decode cL_law 2451 = .ok (.aload_n 0, 1) := by decide +kernel
theorem dL_law_2452 : decode cL_law 2452 = .ok (.iload 4, 2) := by decide +kernel
theorem dL_law_2454 : decode cL_law 2454 = .ok (.iconst 3, 1) := by decide +kernel
theorem dL_law_2455 : decode cL_law 2455 = .ok (.iadd, 1) := by decide +kernel
theorem dL_law_2456 : decode cL_law 2456 = .ok (.iaload, 1) := by decide +kernel
theorem dL_law_2457 : decode cL_law 2457 = .ok (.invokevirtual 252, 3) := by decide +kernel
theorem dL_law_2460 : decode cL_law 2460 = .ok (.istore 6, 2) := by decide +kernel
theorem dL_law_2462 : decode cL_law 2462 = .ok (.aload_n 2, 1) := by decide +kernel
theorem dL_law_2463 : decode cL_law 2463 = .ok (.invokevirtual 144, 3) := by decide +kernel
theorem dL_law_2466 : decode cL_law 2466 = .ok (.iload 5, 2) := by decide +kernel
theorem dL_law_2468 : decode cL_law 2468 = .ok (.if_icmp .eq 5, 3) := by decide +kernel
theorem dL_law_2471 : decode cL_law 2471 = .ok (.iconst 0, 1) := by decide +kernel
theorem dL_law_2472 : decode cL_law 2472 = .ok (.ireturn, 1) := by decide +kernel
theorem dL_law_2473 : decode cL_law 2473 = .ok (.iload 5, 2) := by decide +kernel
theorem dL_law_2475 : decode cL_law 2475 = .ok (.ifCond .ne 15, 3) := by decide +kernel
theorem dL_law_2478 : decode cL_law 2478 = .ok (.aload_n 3, 1) := by decide +kernel
theorem dL_law_2479 : decode cL_law 2479 = .ok (.iconst 0, 1) := by decide +kernel
theorem dL_law_2480 : decode cL_law 2480 = .ok (.laload, 1) := by decide +kernel
theorem dL_law_2481 : decode cL_law 2481 = .ok (.iload 6, 2) := by decide +kernel
theorem dL_law_2483 : decode cL_law 2483 = .ok (.i2l, 1) := by decide +kernel
theorem dL_law_2484 : decode cL_law 2484 = .ok (.lcmp, 1) := by decide +kernel
theorem dL_law_2485 : decode cL_law 2485 = .ok (.ifCond .eq 5, 3) := by decide +kernel
theorem dL_law_2488 : decode cL_law 2488 = .ok (.iconst 0, 1) := by decide +kernel
theorem dL_law_2489 : decode cL_law 2489 = .ok (.ireturn, 1) := by decide +kernel
theorem dL_law_2490 : decode cL_law 2490 = .ok (.goto 475, 3) := by decide +kernel
theorem dL_law_2493 : decode cL_law 2493 = .ok (.aload_n 1, 1) := by decide +kernel
theorem dL_law_2494 : decode cL_law 2494 = .ok (.aload_n 0, 1) := by decide +kernel
theorem dL_law_2495 : decode cL_law 2495 = .ok (.iload 4, 2) := by decide +kernel
theorem dL_law_2497 : decode cL_law 2497 = .ok (.iconst 1, 1) := by decide +kernel
theorem dL_law_2498 : decode cL_law 2498 = .ok (.iadd, 1) := by decide +kernel
theorem dL_law_2499 : decode cL_law 2499 = .ok (.iaload, 1) := by decide +kernel
theorem dL_law_2500 : decode cL_law 2500 = .ok (.aload_n 0, 1) := by decide +kernel
theorem dL_law_2501 : decode cL_law 2501 = .ok (.iload 4, 2) := by decide +kernel
theorem dL_law_2503 : decode cL_law 2503 = .ok (.iconst 2, 1) := by decide +kernel
theorem dL_law_2504 : decode cL_law 2504 = .ok (.iadd, 1) := by decide +kernel
theorem dL_law_2505 : decode cL_law 2505 = .ok (.iaload, 1) := by decide +kernel
theorem dL_law_2506 : decode cL_law 2506 = .ok (.aload_n 3, 1) := by decide +kernel
theorem dL_law_2507 : decode cL_law 2507 = .ok (.invokestatic 253, 3) := by decide +kernel
theorem dL_law_2510 : decode cL_law 2510 = .ok (.istore 5, 2) := by decide +kernel
theorem dL_law_2512 : decode cL_law 2512 = .ok (.aload_n 2, 1) := by decide +kernel
theorem dL_law_2513 : decode cL_law 2513 = .ok (.aload_n 0, 1) := by decide +kernel
theorem dL_law_2514 : decode cL_law 2514 = .ok (.iload 4, 2) := by decide +kernel
theorem dL_law_2516 : decode cL_law 2516 = .ok (.iconst 1, 1) := by decide +kernel
theorem dL_law_2517 : decode cL_law 2517 = .ok (.iadd, 1) := by decide +kernel
theorem dL_law_2518 : decode cL_law 2518 = .ok (.iaload, 1) := by decide +kernel
theorem dL_law_2519 : decode cL_law 2519 = .ok (.aload_n 0, 1) := by decide +kernel
theorem dL_law_2520 : decode cL_law 2520 = .ok (.iload 4, 2) := by decide +kernel
theorem dL_law_2522 : decode cL_law 2522 = .ok (.iconst 2, 1) := by decide +kernel
theorem dL_law_2523 : decode cL_law 2523 = .ok (.iadd, 1) := by decide +kernel
theorem dL_law_2524 : decode cL_law 2524 = .ok (.iaload, 1) := by decide +kernel
theorem dL_law_2525 : decode cL_law 2525 = .ok (.invokevirtual 255, 3) := by decide +kernel
theorem dL_law_2528 : decode cL_law 2528 = .ok (.istore 6, 2) := by decide +kernel
theorem dL_law_2530 : decode cL_law 2530 = .ok (.aload_n 2, 1) := by decide +kernel
theorem dL_law_2531 : decode cL_law 2531 = .ok (.invokevirtual 144, 3) := by decide +kernel
theorem dL_law_2534 : decode cL_law 2534 = .ok (.iload 5, 2) := by decide +kernel
theorem dL_law_2536 : decode cL_law 2536 = .ok (.if_icmp .eq 5, 3) := by decide +kernel
theorem dL_law_2539 : decode cL_law 2539 = .ok (.iconst 0, 1) := by decide +kernel
theorem dL_law_2540 : decode cL_law 2540 = .ok (.ireturn, 1) := by decide +kernel
theorem dL_law_2541 : decode cL_law 2541 = .ok (.iload 5, 2) := by decide +kernel
theorem dL_law_2543 : decode cL_law 2543 = .ok (.ifCond .ne 15, 3) := by decide +kernel
theorem dL_law_2546 : decode cL_law 2546 = .ok (.aload_n 3, 1) := by decide +kernel
theorem dL_law_2547 : decode cL_law 2547 = .ok (.iconst 0, 1) := by decide +kernel
theorem dL_law_2548 : decode cL_law 2548 = .ok (.laload, 1) := by decide +kernel
theorem dL_law_2549 : decode cL_law 2549 = .ok (.iload 6, 2) := by decide +kernel
theorem dL_law_2551 : decode cL_law 2551 = .ok (.i2l, 1) := by decide +kernel
theorem dL_law_2552 : decode cL_law 2552 = .ok (.lcmp, 1) := by decide +kernel
theorem dL_law_2553 : decode cL_law 2553 = .ok (.ifCond .eq 5, 3) := by decide +kernel
theorem dL_law_2556 : decode cL_law 2556 = .ok (.iconst 0, 1) := by decide +kernel
theorem dL_law_2557 : decode cL_law 2557 = .ok (.ireturn, 1) := by decide +kernel
theorem dL_law_2558 : decode cL_law 2558 = .ok (.goto 407, 3) := by decide +kernel
theorem dL_law_2561 : decode cL_law 2561 = .ok (.aload_n 1, 1) := by decide +kernel
theorem dL_law_2562 : decode cL_law 2562 = .ok (.invokevirtual 256, 3) := by decide +kernel
theorem dL_law_2565 : decode cL_law 2565 = .ok (.aload_n 2, 1) := by decide +kernel
theorem dL_law_2566 : decode cL_law 2566 = .ok (.invokevirtual 259, 3) := by decide +kernel
theorem dL_law_2569 : decode cL_law 2569 = .ok (.if_icmp .eq 396, 3) := by decide +kernel
theorem dL_law_2572 : decode cL_law 2572 = .ok (.iconst 0, 1) := by decide +kernel
theorem dL_law_2573 : decode cL_law 2573 = .ok (.ireturn, 1) := by decide +kernel
theorem dL_law_2574 : decode cL_law 2574 = .ok (.aload_n 1, 1) := by decide +kernel
theorem dL_law_2575 : decode cL_law 2575 = .ok (.aload_n 0, 1) := by decide +kernel
theorem dL_law_2576 : decode cL_law 2576 = .ok (.iload 4, 2) := by decide +kernel
theorem dL_law_2578 : decode cL_law 2578 = .ok (.iconst 1, 1) := by decide +kernel
theorem dL_law_2579 : decode cL_law 2579 = .ok (.iadd, 1) := by decide +kernel
theorem dL_law_2580 : decode cL_law 2580 = .ok (.iaload, 1) := by decide +kernel
theorem dL_law_2581 : decode cL_law 2581 = .ok (.aload_n 0, 1) := by decide +kernel
theorem dL_law_2582 : decode cL_law 2582 = .ok (.iload 4, 2) := by decide +kernel
theorem dL_law_2584 : decode cL_law 2584 = .ok (.iconst 2, 1) := by decide +kernel
theorem dL_law_2585 : decode cL_law 2585 = .ok (.iadd, 1) := by decide +kernel
theorem dL_law_2586 : decode cL_law 2586 = .ok (.iaload, 1) := by decide +kernel
theorem dL_law_2587 : decode cL_law 2587 = .ok (.aload_n 3, 1) := by decide +kernel
theorem dL_law_2588 : decode cL_law 2588 = .ok (.invokestatic 260, 3) := by decide +kernel
theorem dL_law_2591 : decode cL_law 2591 = .ok (.istore 5, 2) := by decide +kernel
theorem dL_law_2593 : decode cL_law 2593 = .ok (.aload_n 2, 1) := by decide +kernel
theorem dL_law_2594 : decode cL_law 2594 = .ok (.aload_n 0, 1) := by decide +kernel
theorem dL_law_2595 : decode cL_law 2595 = .ok (.iload 4, 2) := by decide +kernel
theorem dL_law_2597 : decode cL_law 2597 = .ok (.iconst 1, 1) := by decide +kernel
theorem dL_law_2598 : decode cL_law 2598 = .ok (.iadd, 1) := by decide +kernel
theorem dL_law_2599 : decode cL_law 2599 = .ok (.iaload, 1) := by decide +kernel
theorem dL_law_2600 : decode cL_law 2600 = .ok (.aload_n 0, 1) := by decide +kernel
theorem dL_law_2601 : decode cL_law 2601 = .ok (.iload 4, 2) := by decide +kernel
theorem dL_law_2603 : decode cL_law 2603 = .ok (.iconst 2, 1) := by decide +kernel
theorem dL_law_2604 : decode cL_law 2604 = .ok (.iadd, 1) := by decide +kernel
theorem dL_law_2605 : decode cL_law 2605 = .ok (.iaload, 1) := by decide +kernel
theorem dL_law_2606 : decode cL_law 2606 = .ok (.invokevirtual 262, 3) := by decide +kernel
theorem dL_law_2609 : decode cL_law 2609 = .ok (.istore 6, 2) := by decide +kernel
theorem dL_law_2611 : decode cL_law 2611 = .ok (.aload_n 2, 1) := by decide +kernel
theorem dL_law_2612 : decode cL_law 2612 = .ok (.invokevirtual 144, 3) := by decide +kernel
theorem dL_law_2615 : decode cL_law 2615 = .ok (.iload 5, 2) := by decide +kernel
theorem dL_law_2617 : decode cL_law 2617 = .ok (.if_icmp .eq 5, 3) := by decide +kernel
theorem dL_law_2620 : decode cL_law 2620 = .ok (.iconst 0, 1) := by decide +kernel
theorem dL_law_2621 : decode cL_law 2621 = .ok (.ireturn, 1) := by decide +kernel
theorem dL_law_2622 : decode cL_law 2622 = .ok (.iload 5, 2) := by decide +kernel
theorem dL_law_2624 : decode cL_law 2624 = .ok (.ifCond .ne 15, 3) := by decide +kernel
theorem dL_law_2627 : decode cL_law 2627 = .ok (.aload_n 3, 1) := by decide +kernel
theorem dL_law_2628 : decode cL_law 2628 = .ok (.iconst 0, 1) := by decide +kernel
theorem dL_law_2629 : decode cL_law 2629 = .ok (.laload, 1) := by decide +kernel
theorem dL_law_2630 : decode cL_law 2630 = .ok (.iload 6, 2) := by decide +kernel
theorem dL_law_2632 : decode cL_law 2632 = .ok (.i2l, 1) := by decide +kernel
theorem dL_law_2633 : decode cL_law 2633 = .ok (.lcmp, 1) := by decide +kernel
theorem dL_law_2634 : decode cL_law 2634 = .ok (.ifCond .eq 5, 3) := by decide +kernel
theorem dL_law_2637 : decode cL_law 2637 = .ok (.iconst 0, 1) := by decide +kernel
theorem dL_law_2638 : decode cL_law 2638 = .ok (.ireturn, 1) := by decide +kernel
theorem dL_law_2639 : decode cL_law 2639 = .ok (.goto 326, 3) := by decide +kernel
theorem dL_law_2642 : decode cL_law 2642 = .ok (.aload_n 1, 1) := by decide +kernel
theorem dL_law_2643 : decode cL_law 2643 = .ok (.aload_n 0, 1) := by decide +kernel
theorem dL_law_2644 : decode cL_law 2644 = .ok (.iload 4, 2) := by decide +kernel
theorem dL_law_2646 : decode cL_law 2646 = .ok (.iconst 1, 1) := by decide +kernel
theorem dL_law_2647 : decode cL_law 2647 = .ok (.iadd, 1) := by decide +kernel
theorem dL_law_2648 : decode cL_law 2648 = .ok (.iaload, 1) := by decide +kernel
theorem dL_law_2649 : decode cL_law 2649 = .ok (.aload_n 0, 1) := by decide +kernel
theorem dL_law_2650 : decode cL_law 2650 = .ok (.iload 4, 2) := by decide +kernel
theorem dL_law_2652 : decode cL_law 2652 = .ok (.iconst 2, 1) := by decide +kernel
theorem dL_law_2653 : decode cL_law 2653 = .ok (.iadd, 1) := by decide +kernel
theorem dL_law_2654 : decode cL_law 2654 = .ok (.iaload, 1) := by decide +kernel
theorem dL_law_2655 : decode cL_law 2655 = .ok (.aload_n 3, 1) := by decide +kernel
theorem dL_law_2656 : decode cL_law 2656 = .ok (.invokestatic 263, 3) := by decide +kernel
theorem dL_law_2659 : decode cL_law 2659 = .ok (.istore 5, 2) := by decide +kernel
theorem dL_law_2661 : decode cL_law 2661 = .ok (.aload_n 2, 1) := by decide +kernel
theorem dL_law_2662 : decode cL_law 2662 = .ok (.aload_n 0, 1) := by decide +kernel
theorem dL_law_2663 : decode cL_law 2663 = .ok (.iload 4, 2) := by decide +kernel
theorem dL_law_2665 : decode cL_law 2665 = .ok (.iconst 1, 1) := by decide +kernel
theorem dL_law_2666 : decode cL_law 2666 = .ok (.iadd, 1) := by decide +kernel
theorem dL_law_2667 : decode cL_law 2667 = .ok (.iaload, 1) := by decide +kernel
theorem dL_law_2668 : decode cL_law 2668 = .ok (.aload_n 0, 1) := by decide +kernel
theorem dL_law_2669 : decode cL_law 2669 = .ok (.iload 4, 2) := by decide +kernel
theorem dL_law_2671 : decode cL_law 2671 = .ok (.iconst 2, 1) := by decide +kernel
theorem dL_law_2672 : decode cL_law 2672 = .ok (.iadd, 1) := by decide +kernel
theorem dL_law_2673 : decode cL_law 2673 = .ok (.iaload, 1) := by decide +kernel
theorem dL_law_2674 : decode cL_law 2674 = .ok (.invokevirtual 265, 3) := by decide +kernel
theorem dL_law_2677 : decode cL_law 2677 = .ok (.istore 6, 2) := by decide +kernel
theorem dL_law_2679 : decode cL_law 2679 = .ok (.aload_n 2, 1) := by decide +kernel
theorem dL_law_2680 : decode cL_law 2680 = .ok (.invokevirtual 144, 3) := by decide +kernel
theorem dL_law_2683 : decode cL_law 2683 = .ok (.iload 5, 2) := by decide +kernel
theorem dL_law_2685 : decode cL_law 2685 = .ok (.if_icmp .eq 5, 3) := by decide +kernel
theorem dL_law_2688 : decode cL_law 2688 = .ok (.iconst 0, 1) := by decide +kernel
theorem dL_law_2689 : decode cL_law 2689 = .ok (.ireturn, 1) := by decide +kernel
theorem dL_law_2690 : decode cL_law 2690 = .ok (.iload 5, 2) := by decide +kernel
theorem dL_law_2692 : decode cL_law 2692 = .ok (.ifCond .ne 15, 3) := by decide +kernel
theorem dL_law_2695 : decode cL_law 2695 = .ok (.aload_n 3, 1) := by decide +kernel
theorem dL_law_2696 : decode cL_law 2696 = .ok (.iconst 0, 1) := by decide +kernel
theorem dL_law_2697 : decode cL_law 2697 = .ok (.laload, 1) := by decide +kernel
theorem dL_law_2698 : decode cL_law 2698 = .ok (.iload 6, 2) := by decide +kernel
theorem dL_law_2700 : decode cL_law 2700 = .ok (.i2l, 1) := by decide +kernel
theorem dL_law_2701 : decode cL_law 2701 = .ok (.lcmp, 1) := by decide +kernel
theorem dL_law_2702 : decode cL_law 2702 = .ok (.ifCond .eq 5, 3) := by decide +kernel
theorem dL_law_2705 : decode cL_law 2705 = .ok (.iconst 0, 1) := by decide +kernel
theorem dL_law_2706 : decode cL_law 2706 = .ok (.ireturn, 1) := by decide +kernel
theorem dL_law_2707 : decode cL_law 2707 = .ok (.goto 258, 3) := by decide +kernel
theorem dL_law_2710 : decode cL_law 2710 = .ok (.aload_n 1, 1) := by decide +kernel
theorem dL_law_2711 : decode cL_law 2711 = .ok (.aload_n 0, 1) := by decide +kernel
theorem dL_law_2712 : decode cL_law 2712 = .ok (.iload 4, 2) := by decide +kernel
theorem dL_law_2714 : decode cL_law 2714 = .ok (.iconst 1, 1) := by decide +kernel
theorem dL_law_2715 : decode cL_law 2715 = .ok (.iadd, 1) := by decide +kernel
theorem dL_law_2716 : decode cL_law 2716 = .ok (.iaload, 1) := by decide +kernel
theorem dL_law_2717 : decode cL_law 2717 = .ok (.aload_n 3, 1) := by decide +kernel
theorem dL_law_2718 : decode cL_law 2718 = .ok (.invokestatic 266, 3) := by decide +kernel
theorem dL_law_2721 : decode cL_law 2721 = .ok (.istore 5, 2) := by decide +kernel
theorem dL_law_2723 : decode cL_law 2723 = .ok (.aload_n 2, 1) := by decide +kernel
theorem dL_law_2724 : decode cL_law 2724 = .ok (.aload_n 0, 1) := by decide +kernel
theorem dL_law_2725 : decode cL_law 2725 = .ok (.iload 4, 2) := by decide +kernel
theorem dL_law_2727 : decode cL_law 2727 = .ok (.iconst 1, 1) := by decide +kernel
theorem dL_law_2728 : decode cL_law 2728 = .ok (.iadd, 1) := by decide +kernel
theorem dL_law_2729 : decode cL_law 2729 = .ok (.iaload, 1) := by decide +kernel
theorem dL_law_2730 : decode cL_law 2730 = .ok (.invokevirtual 268, 3) := by decide +kernel
theorem dL_law_2733 : decode cL_law 2733 = .ok (.istore 6, 2) := by decide +kernel
theorem dL_law_2735 : decode cL_law 2735 = .ok (.aload_n 2, 1) := by decide +kernel
theorem dL_law_2736 : decode cL_law 2736 = .ok (.invokevirtual 144, 3) := by decide +kernel
theorem dL_law_2739 : decode cL_law 2739 = .ok (.iload 5, 2) := by decide +kernel
theorem dL_law_2741 : decode cL_law 2741 = .ok (.if_icmp .eq 5, 3) := by decide +kernel
theorem dL_law_2744 : decode cL_law 2744 = .ok (.iconst 0, 1) := by decide +kernel
theorem dL_law_2745 : decode cL_law 2745 = .ok (.ireturn, 1) := by decide +kernel
theorem dL_law_2746 : decode cL_law 2746 = .ok (.iload 5, 2) := by decide +kernel
theorem dL_law_2748 : decode cL_law 2748 = .ok (.ifCond .ne 15, 3) := by decide +kernel
theorem dL_law_2751 : decode cL_law 2751 = .ok (.aload_n 3, 1) := by decide +kernel
theorem dL_law_2752 : decode cL_law 2752 = .ok (.iconst 0, 1) := by decide +kernel
theorem dL_law_2753 : decode cL_law 2753 = .ok (.laload, 1) := by decide +kernel
theorem dL_law_2754 : decode cL_law 2754 = .ok (.iload 6, 2) := by decide +kernel
theorem dL_law_2756 : decode cL_law 2756 = .ok (.i2l, 1) := by decide +kernel
theorem dL_law_2757 : decode cL_law 2757 = .ok (.lcmp, 1) := by decide +kernel
theorem dL_law_2758 : decode cL_law 2758 = .ok (.ifCond .eq 5, 3) := by decide +kernel
theorem dL_law_2761 : decode cL_law 2761 = .ok (.iconst 0, 1) := by decide +kernel
theorem dL_law_2762 : decode cL_law 2762 = .ok (.ireturn, 1) := by decide +kernel
theorem dL_law_2763 : decode cL_law 2763 = .ok (.goto 202, 3) := by decide +kernel
theorem dL_law_2766 : decode cL_law 2766 = .ok (.aload_n 1, 1) := by decide +kernel
theorem dL_law_2767 : decode cL_law 2767 = .ok (.invokevirtual 269, 3) := by decide +kernel
theorem dL_law_2770 : decode cL_law 2770 = .ok (.aload_n 2, 1) := by decide +kernel
theorem dL_law_2771 : decode cL_law 2771 = .ok (.invokevirtual 272, 3) := by decide +kernel
theorem dL_law_2774 : decode cL_law 2774 = .ok (.if_icmp .eq 191, 3) := by decide +kernel
theorem dL_law_2777 : decode cL_law 2777 = .ok (.iconst 0, 1) := by decide +kernel
theorem dL_law_2778 : decode cL_law 2778 = .ok (.ireturn, 1) := by decide +kernel
theorem dL_law_2779 : decode cL_law 2779 = .ok (.aload_n 1, 1) := by decide +kernel
theorem dL_law_2780 : decode cL_law 2780 = .ok (.aload_n 0, 1) := by decide +kernel
theorem dL_law_2781 : decode cL_law 2781 = .ok (.iload 4, 2) := by decide +kernel
theorem dL_law_2783 : decode cL_law 2783 = .ok (.iconst 1, 1) := by decide +kernel
theorem dL_law_2784 : decode cL_law 2784 = .ok (.iadd, 1) := by decide +kernel
theorem dL_law_2785 : decode cL_law 2785 = .ok (.iaload, 1) := by decide +kernel
theorem dL_law_2786 : decode cL_law 2786 = .ok (.aload_n 0, 1) := by decide +kernel
theorem dL_law_2787 : decode cL_law 2787 = .ok (.iload 4, 2) := by decide +kernel
theorem dL_law_2789 : decode cL_law 2789 = .ok (.iconst 2, 1) := by decide +kernel
theorem dL_law_2790 : decode cL_law 2790 = .ok (.iadd, 1) := by decide +kernel
theorem dL_law_2791 : decode cL_law 2791 = .ok (.iaload, 1) := by decide +kernel
theorem dL_law_2792 : decode cL_law 2792 = .ok (.ifCond .eq 7, 3) := by decide +kernel
theorem dL_law_2795 : decode cL_law 2795 = .ok (.iconst 1, 1) := by decide +kernel
theorem dL_law_2796 : decode cL_law 2796 = .ok (.goto 4, 3) := by decide +kernel
theorem dL_law_2799 : decode cL_law 2799 = .ok (.iconst 0, 1) := by decide +kernel
theorem dL_law_2800 : decode cL_law 2800 = .ok (.aload_n 3, 1) := by decide +kernel
theorem dL_law_2801 : decode cL_law 2801 = .ok (.invokestatic 273, 3) := by decide +kernel
theorem dL_law_2804 : decode cL_law 2804 = .ok (.istore 5, 2) := by decide +kernel
theorem dL_law_2806 : decode cL_law 2806 = .ok (.aload_n 2, 1) := by decide +kernel
theorem dL_law_2807 : decode cL_law 2807 = .ok (.aload_n 0, 1) := by decide +kernel
theorem dL_law_2808 : decode cL_law 2808 = .ok (.iload 4, 2) := by decide +kernel
theorem dL_law_2810 : decode cL_law 2810 = .ok (.iconst 1, 1) := by decide +kernel
theorem dL_law_2811 : decode cL_law 2811 = .ok (.iadd, 1) := by decide +kernel
theorem dL_law_2812 : decode cL_law 2812 = .ok (.iaload, 1) := by decide +kernel
theorem dL_law_2813 : decode cL_law 2813 = .ok (.aload_n 0, 1) := by decide +kernel
theorem dL_law_2814 : decode cL_law 2814 = .ok (.iload 4, 2) := by decide +kernel
theorem dL_law_2816 : decode cL_law 2816 = .ok (.iconst 2, 1) := by decide +kernel
theorem dL_law_2817 : decode cL_law 2817 = .ok (.iadd, 1) := by decide +kernel
theorem dL_law_2818 : decode cL_law 2818 = .ok (.iaload, 1) := by decide +kernel
theorem dL_law_2819 : decode cL_law 2819 = .ok (.ifCond .eq 7, 3) := by decide +kernel
theorem dL_law_2822 : decode cL_law 2822 = .ok (.iconst 1, 1) := by decide +kernel
theorem dL_law_2823 : decode cL_law 2823 = .ok (.goto 4, 3) := by decide +kernel
theorem dL_law_2826 : decode cL_law 2826 = .ok (.iconst 0, 1) := by decide +kernel
theorem dL_law_2827 : decode cL_law 2827 = .ok (.invokevirtual 275, 3) := by decide +kernel
theorem dL_law_2830 : decode cL_law 2830 = .ok (.istore 6, 2) := by decide +kernel
theorem dL_law_2832 : decode cL_law 2832 = .ok (.aload_n 2, 1) := by decide +kernel
theorem dL_law_2833 : decode cL_law 2833 = .ok (.invokevirtual 144, 3) := by decide +kernel
theorem dL_law_2836 : decode cL_law 2836 = .ok (.iload 5, 2) := by decide +kernel
theorem dL_law_2838 : decode cL_law 2838 = .ok (.if_icmp .eq 5, 3) := by decide +kernel
theorem dL_law_2841 : decode cL_law 2841 = .ok (.iconst 0, 1) := by decide +kernel
theorem dL_law_2842 : decode cL_law 2842 = .ok (.ireturn, 1) := by decide +kernel
theorem dL_law_2843 : decode cL_law 2843 = .ok (.iload 5, 2) := by decide +kernel
theorem dL_law_2845 : decode cL_law 2845 = .ok (.ifCond .ne 22, 3) := by decide +kernel
theorem dL_law_2848 : decode cL_law 2848 = .ok (.aload_n 3, 1) := by decide +kernel
theorem dL_law_2849 : decode cL_law 2849 = .ok (.iconst 0, 1) := by decide +kernel
theorem dL_law_2850 : decode cL_law 2850 = .ok (.laload, 1) := by decide +kernel
theorem dL_law_2851 : decode cL_law 2851 = .ok (.iload 6, 2) := by decide +kernel
theorem dL_law_2853 : decode cL_law 2853 = .ok (.ifCond .eq 7, 3) := by decide +kernel
theorem dL_law_2856 : decode cL_law 2856 = .ok (.lconst 1, 1) := by decide +kernel
theorem dL_law_2857 : decode cL_law 2857 = .ok (.goto 4, 3) := by decide +kernel
theorem dL_law_2860 : decode cL_law 2860 = .ok (.lconst 0, 1) := by decide +kernel
theorem dL_law_2861 : decode cL_law 2861 = .ok (.lcmp, 1) := by decide +kernel
theorem dL_law_2862 : decode cL_law 2862 = .ok (.ifCond .eq 5, 3) := by decide +kernel
theorem dL_law_2865 : decode cL_law 2865 = .ok (.iconst 0, 1) := by decide +kernel
theorem dL_law_2866 : decode cL_law 2866 = .ok (.ireturn, 1) := by decide +kernel
theorem dL_law_2867 : decode cL_law 2867 = .ok (.goto 98, 3) := by decide +kernel
theorem dL_law_2870 : decode cL_law 2870 = .ok (.aload_n 1, 1) := by decide +kernel
theorem dL_law_2871 : decode cL_law 2871 = .ok (.aload_n 0, 1) := by decide +kernel
theorem dL_law_2872 : decode cL_law 2872 = .ok (.iload 4, 2) := by decide +kernel
theorem dL_law_2874 : decode cL_law 2874 = .ok (.iconst 1, 1) := by decide +kernel
theorem dL_law_2875 : decode cL_law 2875 = .ok (.iadd, 1) := by decide +kernel
theorem dL_law_2876 : decode cL_law 2876 = .ok (.iaload, 1) := by decide +kernel
theorem dL_law_2877 : decode cL_law 2877 = .ok (.aload_n 3, 1) := by decide +kernel
theorem dL_law_2878 : decode cL_law 2878 = .ok (.invokestatic 276, 3) := by decide +kernel
theorem dL_law_2881 : decode cL_law 2881 = .ok (.istore 5, 2) := by decide +kernel
theorem dL_law_2883 : decode cL_law 2883 = .ok (.aload_n 2, 1) := by decide +kernel
theorem dL_law_2884 : decode cL_law 2884 = .ok (.aload_n 0, 1) := by decide +kernel
theorem dL_law_2885 : decode cL_law 2885 = .ok (.iload 4, 2) := by decide +kernel
theorem dL_law_2887 : decode cL_law 2887 = .ok (.iconst 1, 1) := by decide +kernel
theorem dL_law_2888 : decode cL_law 2888 = .ok (.iadd, 1) := by decide +kernel
theorem dL_law_2889 : decode cL_law 2889 = .ok (.iaload, 1) := by decide +kernel
theorem dL_law_2890 : decode cL_law 2890 = .ok (.invokevirtual 278, 3) := by decide +kernel
theorem dL_law_2893 : decode cL_law 2893 = .ok (.istore 6, 2) := by decide +kernel
theorem dL_law_2895 : decode cL_law 2895 = .ok (.aload_n 2, 1) := by decide +kernel
theorem dL_law_2896 : decode cL_law 2896 = .ok (.invokevirtual 144, 3) := by decide +kernel
theorem dL_law_2899 : decode cL_law 2899 = .ok (.iload 5, 2) := by decide +kernel
theorem dL_law_2901 : decode cL_law 2901 = .ok (.if_icmp .eq 5, 3) := by decide +kernel
theorem dL_law_2904 : decode cL_law 2904 = .ok (.iconst 0, 1) := by decide +kernel
theorem dL_law_2905 : decode cL_law 2905 = .ok (.ireturn, 1) := by decide +kernel
theorem dL_law_2906 : decode cL_law 2906 = .ok (.iload 5, 2) := by decide +kernel
theorem dL_law_2908 : decode cL_law 2908 = .ok (.ifCond .ne 15, 3) := by decide +kernel
theorem dL_law_2911 : decode cL_law 2911 = .ok (.aload_n 3, 1) := by decide +kernel
theorem dL_law_2912 : decode cL_law 2912 = .ok (.iconst 0, 1) := by decide +kernel
theorem dL_law_2913 : decode cL_law 2913 = .ok (.laload, 1) := by decide +kernel
theorem dL_law_2914 : decode cL_law 2914 = .ok (.iload 6, 2) := by decide +kernel
theorem dL_law_2916 : decode cL_law 2916 = .ok (.i2l, 1) := by decide +kernel
theorem dL_law_2917 : decode cL_law 2917 = .ok (.lcmp, 1) := by decide +kernel
theorem dL_law_2918 : decode cL_law 2918 = .ok (.ifCond .eq 5, 3) := by decide +kernel
theorem dL_law_2921 : decode cL_law 2921 = .ok (.iconst 0, 1) := by decide +kernel
theorem dL_law_2922 : decode cL_law 2922 = .ok (.ireturn, 1) := by decide +kernel
theorem dL_law_2923 : decode cL_law 2923 = .ok (.goto 42, 3) := by decide +kernel
theorem dL_law_2926 : decode cL_law 2926 = .ok (.aload_n 1, 1) := by decide +kernel
theorem dL_law_2927 : decode cL_law 2927 = .ok (.invokevirtual 279, 3) := by decide +kernel
theorem dL_law_2930 : decode cL_law 2930 = .ok (.aload_n 2, 1) := by decide +kernel
theorem dL_law_2931 : decode cL_law 2931 = .ok (.invokevirtual 282, 3) := by decide +kernel
theorem dL_law_2934 : decode cL_law 2934 = .ok (.if_icmp .eq 31, 3) := by decide +kernel
theorem dL_law_2937 : decode cL_law 2937 = .ok (.iconst 0, 1) := by decide +kernel
theorem dL_law_2938 : decode cL_law 2938 = .ok (.ireturn, 1) := by decide +kernel
theorem dL_law_2939 : decode cL_law 2939 = .ok (.aload_n 1, 1) := by decide +kernel
theorem dL_law_2940 : decode cL_law 2940 = .ok (.invokevirtual 283, 3) := by decide +kernel
theorem dL_law_2943 : decode cL_law 2943 = .ok (.aload_n 2, 1) := by decide +kernel
theorem dL_law_2944 : decode cL_law 2944 = .ok (.invokevirtual 286, 3) := by decide +kernel
theorem dL_law_2947 : decode cL_law 2947 = .ok (.if_icmp .eq 18, 3) := by decide +kernel
theorem dL_law_2950 : decode cL_law 2950 = .ok (.iconst 0, 1) := by decide +kernel
theorem dL_law_2951 : decode cL_law 2951 = .ok (.ireturn, 1) := by decide +kernel
theorem dL_law_2952 : decode cL_law 2952 = .ok (.aload_n 1, 1) := by decide +kernel
theorem dL_law_2953 : decode cL_law 2953 = .ok (.invokevirtual 287, 3) := by decide +kernel
theorem dL_law_2956 : decode cL_law 2956 = .ok (.aload_n 2, 1) := by decide +kernel
theorem dL_law_2957 : decode cL_law 2957 = .ok (.invokevirtual 290, 3) := by decide +kernel
theorem dL_law_2960 : decode cL_law 2960 = .ok (.if_icmp .eq 5, 3) := by decide +kernel
theorem dL_law_2963 : decode cL_law 2963 = .ok (.iconst 0, 1) := by decide +kernel
theorem dL_law_2964 : decode cL_law 2964 = .ok (.ireturn, 1) := by decide +kernel
theorem dL_law_2965 : decode cL_law 2965 = .ok (.iinc 4 7, 3) := by decide +kernel
theorem dL_law_2968 : decode cL_law 2968 = .ok (.goto (-2945), 3) := by decide +kernel
theorem dL_law_2971 : decode cL_law 2971 = .ok (.iconst 1, 1) := by decide +kernel
theorem dL_law_2972 : decode cL_law 2972 = .ok (.ireturn, 1) := by decide +kernel
def wp_L_law_2965 (b len : Nat) (xs : Nat → Int32) (x1 : Option Nat) (x2 : Option Nat) (x3 : Option Nat) (x4 : Int32) (S : xm_S) (kc ks : Nat) (g : Int32 → xm_S → Prop) (Z23 : Option Nat → Option Nat → Option Nat → Int32 → xm_S → Nat → Nat → Prop) : Prop :=
  ∀ y1, y1 = (x4 + (nI 7)) → Z23 x1 x2 x3 y1 S kc ks
set_option maxRecDepth 100000 in
set_option maxHeartbeats 4000000 in
theorem kp_L_law_2965 {K : xm_K} (b len : Nat) (xs : Nat → Int32) (x1 : Option Nat) (x2 : Option Nat) (x3 : Option Nat) (x4 : Int32) (S : xm_S) (kc ks : Nat) {g : Int32 → xm_S → Prop} {Z23 : Option Nat → Option Nat → Option Nat → Int32 → xm_S → Nat → Nat → Prop} (C : xm_Cx K cL_law RL 7 (some .boolean) rm_L_law) (N : xm_Nx K) (hSc : xm_Sc K b len xs) (hg : ∀ v S, g v S → xm_q K (some (xm_i v)) S) (hZ23 : ∀ x1 x2 x3 x4 S kc ks, Z23 x1 x2 x3 x4 S kc ks → xm_W K kc ks 23 [(0, xm_w0 b), (1, xm_r x1), (2, xm_r x2), (3, xm_r x3), (4, xm_i x4)] [] S) (h1 : wp_L_law_2965 b len xs x1 x2 x3 x4 S kc ks g Z23) : xm_W K kc ks 2965 [(0, xm_w0 b), (1, xm_r x1), (2, xm_r x2), (3, xm_r x3), (4, xm_i x4)] [] S := by
  unfold wp_L_law_2965 at h1
  obtain ⟨y1, e2⟩ : ∃ y1, y1 = (x4 + (nI 7)) := ⟨_, rfl⟩
  have h1 := h1 y1 e2
  refine x_iinc (v := y1) (L' := [(4, xm_i y1), (0, xm_w0 b), (1, xm_r x1), (2, xm_r x2), (3, xm_r x3)]) C 4 dL_law_2965 rfl (by rw [e2]; rfl) (by decide) rfl ?_
  refine x_goto (tgt := 23) C dL_law_2968 (by decide) ?_
  refine x_keep (L' := [(0, xm_w0 b), (1, xm_r x1), (2, xm_r x2), (3, xm_r x3), (4, xm_i y1)]) C [1, 2, 3, 4, 0] rfl ?_
  exact hZ23 x1 x2 x3 y1 S kc ks h1
def wp_L_law_325 (b len : Nat) (xs : Nat → Int32) (x1 : Option Nat) (x2 : Option Nat) (x3 : Option Nat) (x4 : Int32) (S : xm_S) (kc ks : Nat) (g : Int32 → xm_S → Prop) (Z23 : Option Nat → Option Nat → Option Nat → Int32 → xm_S → Nat → Nat → Prop) : Prop :=
  wp_L_law_2965 b len xs x1 x2 x3 x4 S kc ks g Z23
set_option maxRecDepth 100000 in
set_option maxHeartbeats 4000000 in
theorem kp_L_law_325 {K : xm_K} (b len : Nat) (xs : Nat → Int32) (x1 : Option Nat) (x2 : Option Nat) (x3 : Option Nat) (x4 : Int32) (S : xm_S) (kc ks : Nat) {g : Int32 → xm_S → Prop} {Z23 : Option Nat → Option Nat → Option Nat → Int32 → xm_S → Nat → Nat → Prop} (C : xm_Cx K cL_law RL 7 (some .boolean) rm_L_law) (N : xm_Nx K) (hSc : xm_Sc K b len xs) (hg : ∀ v S, g v S → xm_q K (some (xm_i v)) S) (hZ23 : ∀ x1 x2 x3 x4 S kc ks, Z23 x1 x2 x3 x4 S kc ks → xm_W K kc ks 23 [(0, xm_w0 b), (1, xm_r x1), (2, xm_r x2), (3, xm_r x3), (4, xm_i x4)] [] S) (h1 : wp_L_law_325 b len xs x1 x2 x3 x4 S kc ks g Z23) : xm_W K kc ks 325 [(0, xm_w0 b), (1, xm_r x1), (2, xm_r x2), (3, xm_r x3), (4, xm_i x4)] [] S := by
  unfold wp_L_law_325 at h1
  refine x_goto (tgt := 2965) C dL_law_325 (by decide) ?_
  exact kp_L_law_2965 b len xs x1 x2 x3 x4 S kc ks C N hSc hg hZ23 h1
def wp_L_law_228 (b len : Nat) (xs : Nat → Int32) (x1 : Option Nat) (x2 : Option Nat) (x3 : Option Nat) (x4 : Int32) (S : xm_S) (kc ks : Nat) (g : Int32 → xm_S → Prop) (Z23 : Option Nat → Option Nat → Option Nat → Int32 → xm_S → Nat → Nat → Prop) : Prop :=
  vp_in (x4 + (1 : Int32)) len ∧ vp_in (x4 + (nI 2)) len ∧ vp_in (x4 + (nI 3)) len ∧ kc + 1 ≤ 601024 ∧ ks + 6 ≤ 7293034 ∧ wp_L_type x1 (((((xs ((x4 + (1 : Int32))).toNatClampNeg)).toInt64) <<< ((nI 32).toInt64 &&& 63)) ||| ((((xs ((x4 + (nI 2))).toNatClampNeg)).toInt64) &&& (4294967295 : Int64))) (xs ((x4 + (nI 3))).toNatClampNeg) x3 S (fun r9 S8 => vp_in (x4 + (1 : Int32)) len ∧ vp_in (x4 + (nI 2)) len ∧ vp_in (x4 + (nI 3)) len ∧ ∃ n13, x2 = some n13 ∧ st_t S8 n13 = some (12, 0) ∧ (kc + 1) ≤ 601024 ∧ (ks + 6) ≤ 7293034 ∧ wp_X12_type n13 (((((xs ((x4 + (1 : Int32))).toNatClampNeg)).toInt64) <<< ((nI 32).toInt64 &&& 63)) ||| ((((xs ((x4 + (nI 2))).toNatClampNeg)).toInt64) &&& (4294967295 : Int64))) (xs ((x4 + (nI 3))).toNatClampNeg) S8 (fun r19 S18 => ∃ n20, x2 = some n20 ∧ st_t S18 n20 = some (12, 0) ∧ (kc + 1) ≤ 601024 ∧ (ks + 6) ≤ 7293034 ∧ wp_X12_thrown n20 S18 (fun r26 S25 => (r26 = r9 → (¬ r9 = 0 → wp_L_law_325 b len xs x1 x2 x3 x4 S25 (kc + 1) (ks + 6) g Z23) ∧ (r9 = 0 → ∃ n27, x3 = some n27 ∧ ∃ z30, st_t S25 n27 = some (103, z30) ∧ vp_in (0 : Int32) z30 ∧ ((lg_cmp (st_l S25 n27 ((0 : Int32)).toNatClampNeg) ((r19).toInt64)) = 0 → wp_L_law_325 b len xs x1 x2 x3 x4 S25 (kc + 1) (ks + 6) g Z23) ∧ (¬ (lg_cmp (st_l S25 n27 ((0 : Int32)).toNatClampNeg) ((r19).toInt64)) = 0 → (kc + 1) ≤ 601024 ∧ (ks + 6) ≤ 7293034 ∧ g (0 : Int32) S25))) ∧ (¬ r26 = r9 → (kc + 1) ≤ 601024 ∧ (ks + 6) ≤ 7293034 ∧ g (0 : Int32) S25))))
set_option maxRecDepth 100000 in
set_option maxHeartbeats 4000000 in
theorem kp_L_law_228 {K : xm_K} (b len : Nat) (xs : Nat → Int32) (x1 : Option Nat) (x2 : Option Nat) (x3 : Option Nat) (x4 : Int32) (S : xm_S) (kc ks : Nat) {g : Int32 → xm_S → Prop} {Z23 : Option Nat → Option Nat → Option Nat → Int32 → xm_S → Nat → Nat → Prop} (C : xm_Cx K cL_law RL 7 (some .boolean) rm_L_law) (N : xm_Nx K) (hSc : xm_Sc K b len xs) (hg : ∀ v S, g v S → xm_q K (some (xm_i v)) S) (hZ23 : ∀ x1 x2 x3 x4 S kc ks, Z23 x1 x2 x3 x4 S kc ks → xm_W K kc ks 23 [(0, xm_w0 b), (1, xm_r x1), (2, xm_r x2), (3, xm_r x3), (4, xm_i x4)] [] S) (h1 : wp_L_law_228 b len xs x1 x2 x3 x4 S kc ks g Z23) : xm_W K kc ks 228 [(0, xm_w0 b), (1, xm_r x1), (2, xm_r x2), (3, xm_r x3), (4, xm_i x4)] [] S := by
  unfold wp_L_law_228 at h1
  refine x_aload_n C 1 dL_law_228 rfl rfl ?_
  refine x_aload_n_w C 0 dL_law_229 rfl rfl ?_
  refine x_iload C 4 dL_law_230 rfl ?_
  refine x_iconst (v := (1 : Int32)) C dL_law_232 (by decide) ?_
  refine x_iadd C dL_law_233 ?_
  obtain ⟨hi3, h1⟩ := h1
  refine x_sald C hSc hi3 dL_law_234 ?_
  refine x_i2l C dL_law_235 ?_
  refine x_bipush (v := (nI 32)) C dL_law_236 (by decide) ?_
  refine x_lshl C dL_law_238 ?_
  refine x_aload_n_w C 0 dL_law_239 rfl rfl ?_
  refine x_iload C 4 dL_law_240 rfl ?_
  refine x_iconst (v := (nI 2)) C dL_law_242 (by decide) ?_
  refine x_iadd C dL_law_243 ?_
  obtain ⟨hi4, h1⟩ := h1
  refine x_sald C hSc hi4 dL_law_244 ?_
  refine x_i2l C dL_law_245 ?_
  refine x_ldc2 (v := (4294967295 : Int64)) C gw_930 dL_law_246 ?_
  refine x_land C dL_law_249 ?_
  refine x_lor C dL_law_250 ?_
  refine x_aload_n_w C 0 dL_law_251 rfl rfl ?_
  refine x_iload C 4 dL_law_252 rfl ?_
  refine x_iconst (v := (nI 3)) C dL_law_254 (by decide) ?_
  refine x_iadd C dL_law_255 ?_
  obtain ⟨hi5, h1⟩ := h1
  refine x_sald C hSc hi5 dL_law_256 ?_
  refine x_aload_n C 3 dL_law_257 rfl rfl ?_
  obtain ⟨hc6, hc7, h1⟩ := h1
  refine x_callSH (rm' := rm_L_type) (hh := [(0, 11, 14, 13), (0, 11, 18, 15)]) C (kp_L_type_met h1) gw_931 gw_932 gw_933 ⟨by decide, by decide, show Option.map _ (parseMethodDescriptor yL_type.desc) = some 4 from by decide +kernel⟩ gw_934 rfl (Nat.le_of_ble_eq_true rfl) ⟨Nat.le_of_ble_eq_true rfl, Nat.le_of_ble_eq_true rfl, hc6, hc7⟩ dL_law_258 xm_kx (xm_ki (fun r9 S8 h1 => ?_))
  refine x_istore (L' := [(5, xm_i r9), (0, xm_w0 b), (1, xm_r x1), (2, xm_r x2), (3, xm_r x3), (4, xm_i x4)]) C dL_law_261 (by decide) rfl ?_
  refine x_aload_n C 3 dL_law_263 rfl rfl ?_
  refine x_aload_n_w C 1 dL_law_264 rfl rfl ?_
  refine x_iload C 5 dL_law_265 rfl ?_
  refine x_iconst (v := (1 : Int32)) C dL_law_267 (by decide) ?_
  refine x_iadd C dL_law_268 ?_
  obtain ⟨hi10, h1⟩ := h1
  refine x_sald C hSc hi10 dL_law_269 ?_
  refine x_i2l C dL_law_270 ?_
  refine x_bipush (v := (nI 32)) C dL_law_271 (by decide) ?_
  refine x_lshl C dL_law_273 ?_
  refine x_aload_n_w C 1 dL_law_274 rfl rfl ?_
  refine x_iload C 5 dL_law_275 rfl ?_
  refine x_iconst (v := (nI 2)) C dL_law_277 (by decide) ?_
  refine x_iadd C dL_law_278 ?_
  obtain ⟨hi11, h1⟩ := h1
  refine x_sald C hSc hi11 dL_law_279 ?_
  refine x_i2l C dL_law_280 ?_
  refine x_ldc2 (v := (4294967295 : Int64)) C gw_930 dL_law_281 ?_
  refine x_land C dL_law_284 ?_
  refine x_lor C dL_law_285 ?_
  refine x_aload_n_w C 1 dL_law_286 rfl rfl ?_
  refine x_iload C 5 dL_law_287 rfl ?_
  refine x_iconst (v := (nI 3)) C dL_law_289 (by decide) ?_
  refine x_iadd C dL_law_290 ?_
  obtain ⟨hi12, h1⟩ := h1
  refine x_sald C hSc hi12 dL_law_291 ?_
  obtain ⟨n13, hr14, h1⟩ := h1
  obtain ⟨ht15, h1⟩ := h1
  obtain ⟨hc16, hc17, h1⟩ := h1
  refine x_callV (rm' := rm_X12_type) (n := n13) C (kp_X12_type_met h1) lk_170 gw_937 gw_938 xv_12 rfl hr14 ht15 rfl (Nat.le_of_ble_eq_true rfl) ⟨Nat.le_of_ble_eq_true rfl, Nat.le_of_ble_eq_true rfl, hc16, hc17⟩ dL_law_292 xm_kx (xm_ki (fun r19 S18 h1 => ?_))
  refine x_istore (L' := [(6, xm_i r19), (5, xm_i r9), (0, xm_w0 b), (1, xm_r x1), (2, xm_r x2), (3, xm_r x3), (4, xm_i x4)]) C dL_law_295 (by decide) rfl ?_
  refine x_aload_n C 4 dL_law_297 rfl rfl ?_
  obtain ⟨n20, hr21, h1⟩ := h1
  obtain ⟨ht22, h1⟩ := h1
  obtain ⟨hc23, hc24, h1⟩ := h1
  refine x_callV (rm' := rm_X12_thrown) (n := n20) C (kp_X12_thrown_met h1) lk_171 gw_941 gw_942 xv_12 rfl hr21 ht22 rfl (Nat.le_of_ble_eq_true rfl) ⟨Nat.le_of_ble_eq_true rfl, Nat.le_of_ble_eq_true rfl, hc23, hc24⟩ dL_law_298 xm_kx (xm_ki (fun r26 S25 h1 => ?_))
  refine x_iload C 1 dL_law_301 rfl ?_
  refine x_icmp_eq (tgt := 308) C dL_law_303 (by decide) (fun z9 => ?_) (fun z9 => ?_)
  · have h1 := h1.1 z9
    refine x_iload C 1 dL_law_308 rfl ?_
    refine x_if_ne (tgt := 325) C dL_law_310 (by decide) (fun z9 => ?_) (fun z9 => ?_)
    · have h1 := h1.1 z9
      refine x_keep (L' := [(0, xm_w0 b), (1, xm_r x1), (2, xm_r x2), (3, xm_r x3), (4, xm_i x4)]) C [2, 3, 4, 5, 6] rfl ?_
      exact kp_L_law_325 b len xs x1 x2 x3 x4 S25 (kc + 1) (ks + 6) C N hSc hg hZ23 h1
    · have h1 := h1.2 z9
      refine x_aload_n C 5 dL_law_313 rfl rfl ?_
      refine x_iconst (v := (0 : Int32)) C dL_law_314 (by decide) ?_
      obtain ⟨n27, hr28, h1⟩ := h1
      obtain ⟨z30, ht29, h1⟩ := h1
      obtain ⟨hi31, h1⟩ := h1
      refine x_lald (n := n27) C hr28 ht29 hi31 dL_law_315 ?_
      refine x_iload C 0 dL_law_316 rfl ?_
      refine x_i2l C dL_law_318 ?_
      refine x_lcmp C dL_law_319 ?_
      refine x_if_eq (tgt := 325) C dL_law_320 (by decide) (fun z9 => ?_) (fun z9 => ?_)
      · have h1 := h1.1 z9
        refine x_keep (L' := [(0, xm_w0 b), (1, xm_r x1), (2, xm_r x2), (3, xm_r x3), (4, xm_i x4)]) C [2, 3, 4, 5, 6] rfl ?_
        exact kp_L_law_325 b len xs x1 x2 x3 x4 S25 (kc + 1) (ks + 6) C N hSc hg hZ23 h1
      · have h1 := h1.2 z9
        refine x_iconst (v := (0 : Int32)) C dL_law_323 (by decide) ?_
        obtain ⟨hc32, hc33, h1⟩ := h1
        exact x_zret C hc32 hc33 rfl (by decide) dL_law_324 (hg _ _ h1)
  · have h1 := h1.2 z9
    refine x_iconst (v := (0 : Int32)) C dL_law_306 (by decide) ?_
    obtain ⟨hc34, hc35, h1⟩ := h1
    exact x_zret C hc34 hc35 rfl (by decide) dL_law_307 (hg _ _ h1)
def wp_L_law_328 (b len : Nat) (xs : Nat → Int32) (x1 : Option Nat) (x2 : Option Nat) (x3 : Option Nat) (x4 : Int32) (S : xm_S) (kc ks : Nat) (g : Int32 → xm_S → Prop) (Z23 : Option Nat → Option Nat → Option Nat → Int32 → xm_S → Nat → Nat → Prop) : Prop :=
  ∃ n36, x1 = some n36 ∧ st_t S n36 = some (11, 0) ∧ kc ≤ 601024 ∧ ks ≤ 7293034 ∧ wp_X11_wipe n36 S (fun r42 S41 => ∃ n43, x2 = some n43 ∧ st_t S41 n43 = some (12, 0) ∧ kc ≤ 601024 ∧ ks ≤ 7293034 ∧ wp_X12_wipe n43 S41 (fun r49 S48 => (r42 = r49 → wp_L_law_2965 b len xs x1 x2 x3 x4 S48 kc ks g Z23) ∧ (¬ r42 = r49 → kc ≤ 601024 ∧ ks ≤ 7293034 ∧ g (0 : Int32) S48)))
set_option maxRecDepth 100000 in
set_option maxHeartbeats 4000000 in
theorem kp_L_law_328 {K : xm_K} (b len : Nat) (xs : Nat → Int32) (x1 : Option Nat) (x2 : Option Nat) (x3 : Option Nat) (x4 : Int32) (S : xm_S) (kc ks : Nat) {g : Int32 → xm_S → Prop} {Z23 : Option Nat → Option Nat → Option Nat → Int32 → xm_S → Nat → Nat → Prop} (C : xm_Cx K cL_law RL 7 (some .boolean) rm_L_law) (N : xm_Nx K) (hSc : xm_Sc K b len xs) (hg : ∀ v S, g v S → xm_q K (some (xm_i v)) S) (hZ23 : ∀ x1 x2 x3 x4 S kc ks, Z23 x1 x2 x3 x4 S kc ks → xm_W K kc ks 23 [(0, xm_w0 b), (1, xm_r x1), (2, xm_r x2), (3, xm_r x3), (4, xm_i x4)] [] S) (h1 : wp_L_law_328 b len xs x1 x2 x3 x4 S kc ks g Z23) : xm_W K kc ks 328 [(0, xm_w0 b), (1, xm_r x1), (2, xm_r x2), (3, xm_r x3), (4, xm_i x4)] [] S := by
  unfold wp_L_law_328 at h1
  refine x_aload_n C 1 dL_law_328 rfl rfl ?_
  obtain ⟨n36, hr37, h1⟩ := h1
  obtain ⟨ht38, h1⟩ := h1
  obtain ⟨hc39, hc40, h1⟩ := h1
  refine x_callV (rm' := rm_X11_wipe) (n := n36) C (kp_X11_wipe_met h1) lk_172 gw_945 gw_946 xv_11 rfl hr37 ht38 rfl (Nat.le_of_ble_eq_true rfl) ⟨Nat.le_of_ble_eq_true rfl, Nat.le_of_ble_eq_true rfl, hc39, hc40⟩ dL_law_329 xm_kx (xm_ki (fun r42 S41 h1 => ?_))
  refine x_aload_n C 2 dL_law_332 rfl rfl ?_
  obtain ⟨n43, hr44, h1⟩ := h1
  obtain ⟨ht45, h1⟩ := h1
  obtain ⟨hc46, hc47, h1⟩ := h1
  refine x_callV (rm' := rm_X12_wipe) (n := n43) C (kp_X12_wipe_met h1) lk_173 gw_949 gw_950 xv_12 rfl hr44 ht45 rfl (Nat.le_of_ble_eq_true rfl) ⟨Nat.le_of_ble_eq_true rfl, Nat.le_of_ble_eq_true rfl, hc46, hc47⟩ dL_law_333 xm_kx (xm_ki (fun r49 S48 h1 => ?_))
  refine x_icmp_eq (tgt := 2965) C dL_law_336 (by decide) (fun z9 => ?_) (fun z9 => ?_)
  · have h1 := h1.1 z9
    exact kp_L_law_2965 b len xs x1 x2 x3 x4 S48 kc ks C N hSc hg hZ23 h1
  · have h1 := h1.2 z9
    refine x_iconst (v := (0 : Int32)) C dL_law_339 (by decide) ?_
    obtain ⟨hc50, hc51, h1⟩ := h1
    exact x_zret C hc50 hc51 rfl (by decide) dL_law_340 (hg _ _ h1)
def wp_L_law_341 (b len : Nat) (xs : Nat → Int32) (x1 : Option Nat) (x2 : Option Nat) (x3 : Option Nat) (x4 : Int32) (S : xm_S) (kc ks : Nat) (g : Int32 → xm_S → Prop) (Z23 : Option Nat → Option Nat → Option Nat → Int32 → xm_S → Nat → Nat → Prop) : Prop :=
  ∃ n52, x1 = some n52 ∧ st_t S n52 = some (11, 0) ∧ kc + 130 ≤ 601024 ∧ ks + 450 ≤ 7293034 ∧ wp_X11_fault n52 S (fun r58 S57 => ∃ n59, x2 = some n59 ∧ st_t S57 n59 = some (12, 0) ∧ (kc + 130) ≤ 601024 ∧ (ks + 450) ≤ 7293034 ∧ wp_X12_fault n59 S57 (fun r65 S64 => (r58 = r65 → wp_L_law_2965 b len xs x1 x2 x3 x4 S64 (kc + 130) (ks + 450) g Z23) ∧ (¬ r58 = r65 → (kc + 130) ≤ 601024 ∧ (ks + 450) ≤ 7293034 ∧ g (0 : Int32) S64)))
set_option maxRecDepth 100000 in
set_option maxHeartbeats 4000000 in
theorem kp_L_law_341 {K : xm_K} (b len : Nat) (xs : Nat → Int32) (x1 : Option Nat) (x2 : Option Nat) (x3 : Option Nat) (x4 : Int32) (S : xm_S) (kc ks : Nat) {g : Int32 → xm_S → Prop} {Z23 : Option Nat → Option Nat → Option Nat → Int32 → xm_S → Nat → Nat → Prop} (C : xm_Cx K cL_law RL 7 (some .boolean) rm_L_law) (N : xm_Nx K) (hSc : xm_Sc K b len xs) (hg : ∀ v S, g v S → xm_q K (some (xm_i v)) S) (hZ23 : ∀ x1 x2 x3 x4 S kc ks, Z23 x1 x2 x3 x4 S kc ks → xm_W K kc ks 23 [(0, xm_w0 b), (1, xm_r x1), (2, xm_r x2), (3, xm_r x3), (4, xm_i x4)] [] S) (h1 : wp_L_law_341 b len xs x1 x2 x3 x4 S kc ks g Z23) : xm_W K kc ks 341 [(0, xm_w0 b), (1, xm_r x1), (2, xm_r x2), (3, xm_r x3), (4, xm_i x4)] [] S := by
  unfold wp_L_law_341 at h1
  refine x_aload_n C 1 dL_law_341 rfl rfl ?_
  obtain ⟨n52, hr53, h1⟩ := h1
  obtain ⟨ht54, h1⟩ := h1
  obtain ⟨hc55, hc56, h1⟩ := h1
  refine x_callV (rm' := rm_X11_fault) (n := n52) C (kp_X11_fault_met h1) lk_174 gw_953 gw_954 xv_11 rfl hr53 ht54 rfl (Nat.le_of_ble_eq_true rfl) ⟨Nat.le_of_ble_eq_true rfl, Nat.le_of_ble_eq_true rfl, hc55, hc56⟩ dL_law_342 xm_kx (xm_ki (fun r58 S57 h1 => ?_))
  refine x_aload_n C 2 dL_law_345 rfl rfl ?_
  obtain ⟨n59, hr60, h1⟩ := h1
  obtain ⟨ht61, h1⟩ := h1
  obtain ⟨hc62, hc63, h1⟩ := h1
  refine x_callV (rm' := rm_X12_fault) (n := n59) C (kp_X12_fault_met h1) lk_175 gw_957 gw_958 xv_12 rfl hr60 ht61 rfl (Nat.le_of_ble_eq_true rfl) ⟨Nat.le_of_ble_eq_true rfl, Nat.le_of_ble_eq_true rfl, hc62, hc63⟩ dL_law_346 xm_kx (xm_ki (fun r65 S64 h1 => ?_))
  refine x_icmp_eq (tgt := 2965) C dL_law_349 (by decide) (fun z9 => ?_) (fun z9 => ?_)
  · have h1 := h1.1 z9
    exact kp_L_law_2965 b len xs x1 x2 x3 x4 S64 (kc + 130) (ks + 450) C N hSc hg hZ23 h1
  · have h1 := h1.2 z9
    refine x_iconst (v := (0 : Int32)) C dL_law_352 (by decide) ?_
    obtain ⟨hc66, hc67, h1⟩ := h1
    exact x_zret C hc66 hc67 rfl (by decide) dL_law_353 (hg _ _ h1)
def wp_L_law_419 (b len : Nat) (xs : Nat → Int32) (x1 : Option Nat) (x2 : Option Nat) (x3 : Option Nat) (x4 : Int32) (S : xm_S) (kc ks : Nat) (g : Int32 → xm_S → Prop) (Z23 : Option Nat → Option Nat → Option Nat → Int32 → xm_S → Nat → Nat → Prop) : Prop :=
  wp_L_law_2965 b len xs x1 x2 x3 x4 S kc ks g Z23
set_option maxRecDepth 100000 in
set_option maxHeartbeats 4000000 in
theorem kp_L_law_419 {K : xm_K} (b len : Nat) (xs : Nat → Int32) (x1 : Option Nat) (x2 : Option Nat) (x3 : Option Nat) (x4 : Int32) (S : xm_S) (kc ks : Nat) {g : Int32 → xm_S → Prop} {Z23 : Option Nat → Option Nat → Option Nat → Int32 → xm_S → Nat → Nat → Prop} (C : xm_Cx K cL_law RL 7 (some .boolean) rm_L_law) (N : xm_Nx K) (hSc : xm_Sc K b len xs) (hg : ∀ v S, g v S → xm_q K (some (xm_i v)) S) (hZ23 : ∀ x1 x2 x3 x4 S kc ks, Z23 x1 x2 x3 x4 S kc ks → xm_W K kc ks 23 [(0, xm_w0 b), (1, xm_r x1), (2, xm_r x2), (3, xm_r x3), (4, xm_i x4)] [] S) (h1 : wp_L_law_419 b len xs x1 x2 x3 x4 S kc ks g Z23) : xm_W K kc ks 419 [(0, xm_w0 b), (1, xm_r x1), (2, xm_r x2), (3, xm_r x3), (4, xm_i x4)] [] S := by
  unfold wp_L_law_419 at h1
  refine x_goto (tgt := 2965) C dL_law_419 (by decide) ?_
  exact kp_L_law_2965 b len xs x1 x2 x3 x4 S kc ks C N hSc hg hZ23 h1
def wp_L_law_354 (b len : Nat) (xs : Nat → Int32) (x1 : Option Nat) (x2 : Option Nat) (x3 : Option Nat) (x4 : Int32) (S : xm_S) (kc ks : Nat) (g : Int32 → xm_S → Prop) (Z23 : Option Nat → Option Nat → Option Nat → Int32 → xm_S → Nat → Nat → Prop) : Prop :=
  vp_in (x4 + (1 : Int32)) len ∧ vp_in (x4 + (nI 2)) len ∧ kc + 2 ≤ 601024 ∧ ks + 12 ≤ 7293034 ∧ wp_L_scheme x1 (xs ((x4 + (1 : Int32))).toNatClampNeg) (xs ((x4 + (nI 2))).toNatClampNeg) x3 S (fun r73 S72 => vp_in (x4 + (1 : Int32)) len ∧ vp_in (x4 + (nI 2)) len ∧ ∃ n76, x2 = some n76 ∧ st_t S72 n76 = some (12, 0) ∧ (kc + 2) ≤ 601024 ∧ (ks + 12) ≤ 7293034 ∧ wp_X12_scheme n76 (xs ((x4 + (1 : Int32))).toNatClampNeg) (xs ((x4 + (nI 2))).toNatClampNeg) S72 (fun r82 S81 => ∃ n83, x2 = some n83 ∧ st_t S81 n83 = some (12, 0) ∧ (kc + 2) ≤ 601024 ∧ (ks + 12) ≤ 7293034 ∧ wp_X12_thrown n83 S81 (fun r89 S88 => (r89 = r73 → (¬ r73 = 0 → wp_L_law_419 b len xs x1 x2 x3 x4 S88 (kc + 2) (ks + 12) g Z23) ∧ (r73 = 0 → ∃ n90, x3 = some n90 ∧ ∃ z93, st_t S88 n90 = some (103, z93) ∧ vp_in (0 : Int32) z93 ∧ ((lg_cmp (st_l S88 n90 ((0 : Int32)).toNatClampNeg) ((r82).toInt64)) = 0 → wp_L_law_419 b len xs x1 x2 x3 x4 S88 (kc + 2) (ks + 12) g Z23) ∧ (¬ (lg_cmp (st_l S88 n90 ((0 : Int32)).toNatClampNeg) ((r82).toInt64)) = 0 → (kc + 2) ≤ 601024 ∧ (ks + 12) ≤ 7293034 ∧ g (0 : Int32) S88))) ∧ (¬ r89 = r73 → (kc + 2) ≤ 601024 ∧ (ks + 12) ≤ 7293034 ∧ g (0 : Int32) S88))))
set_option maxRecDepth 100000 in
set_option maxHeartbeats 4000000 in
theorem kp_L_law_354 {K : xm_K} (b len : Nat) (xs : Nat → Int32) (x1 : Option Nat) (x2 : Option Nat) (x3 : Option Nat) (x4 : Int32) (S : xm_S) (kc ks : Nat) {g : Int32 → xm_S → Prop} {Z23 : Option Nat → Option Nat → Option Nat → Int32 → xm_S → Nat → Nat → Prop} (C : xm_Cx K cL_law RL 7 (some .boolean) rm_L_law) (N : xm_Nx K) (hSc : xm_Sc K b len xs) (hg : ∀ v S, g v S → xm_q K (some (xm_i v)) S) (hZ23 : ∀ x1 x2 x3 x4 S kc ks, Z23 x1 x2 x3 x4 S kc ks → xm_W K kc ks 23 [(0, xm_w0 b), (1, xm_r x1), (2, xm_r x2), (3, xm_r x3), (4, xm_i x4)] [] S) (h1 : wp_L_law_354 b len xs x1 x2 x3 x4 S kc ks g Z23) : xm_W K kc ks 354 [(0, xm_w0 b), (1, xm_r x1), (2, xm_r x2), (3, xm_r x3), (4, xm_i x4)] [] S := by
  unfold wp_L_law_354 at h1
  refine x_aload_n C 1 dL_law_354 rfl rfl ?_
  refine x_aload_n_w C 0 dL_law_355 rfl rfl ?_
  refine x_iload C 4 dL_law_356 rfl ?_
  refine x_iconst (v := (1 : Int32)) C dL_law_358 (by decide) ?_
  refine x_iadd C dL_law_359 ?_
  obtain ⟨hi68, h1⟩ := h1
  refine x_sald C hSc hi68 dL_law_360 ?_
  refine x_aload_n_w C 0 dL_law_361 rfl rfl ?_
  refine x_iload C 4 dL_law_362 rfl ?_
  refine x_iconst (v := (nI 2)) C dL_law_364 (by decide) ?_
  refine x_iadd C dL_law_365 ?_
  obtain ⟨hi69, h1⟩ := h1
  refine x_sald C hSc hi69 dL_law_366 ?_
  refine x_aload_n C 3 dL_law_367 rfl rfl ?_
  obtain ⟨hc70, hc71, h1⟩ := h1
  refine x_callSH (rm' := rm_L_scheme) (hh := [(0, 10, 13, 21), (0, 10, 17, 13)]) C (kp_L_scheme_met h1) gw_959 gw_932 gw_960 ⟨by decide, by decide, show Option.map _ (parseMethodDescriptor yL_scheme.desc) = some 4 from by decide +kernel⟩ gw_961 rfl (Nat.le_of_ble_eq_true rfl) ⟨Nat.le_of_ble_eq_true rfl, Nat.le_of_ble_eq_true rfl, hc70, hc71⟩ dL_law_368 xm_kx (xm_ki (fun r73 S72 h1 => ?_))
  refine x_istore (L' := [(5, xm_i r73), (0, xm_w0 b), (1, xm_r x1), (2, xm_r x2), (3, xm_r x3), (4, xm_i x4)]) C dL_law_371 (by decide) rfl ?_
  refine x_aload_n C 3 dL_law_373 rfl rfl ?_
  refine x_aload_n_w C 1 dL_law_374 rfl rfl ?_
  refine x_iload C 5 dL_law_375 rfl ?_
  refine x_iconst (v := (1 : Int32)) C dL_law_377 (by decide) ?_
  refine x_iadd C dL_law_378 ?_
  obtain ⟨hi74, h1⟩ := h1
  refine x_sald C hSc hi74 dL_law_379 ?_
  refine x_aload_n_w C 1 dL_law_380 rfl rfl ?_
  refine x_iload C 5 dL_law_381 rfl ?_
  refine x_iconst (v := (nI 2)) C dL_law_383 (by decide) ?_
  refine x_iadd C dL_law_384 ?_
  obtain ⟨hi75, h1⟩ := h1
  refine x_sald C hSc hi75 dL_law_385 ?_
  obtain ⟨n76, hr77, h1⟩ := h1
  obtain ⟨ht78, h1⟩ := h1
  obtain ⟨hc79, hc80, h1⟩ := h1
  refine x_callV (rm' := rm_X12_scheme) (n := n76) C (kp_X12_scheme_met h1) lk_176 gw_964 gw_965 xv_12 rfl hr77 ht78 rfl (Nat.le_of_ble_eq_true rfl) ⟨Nat.le_of_ble_eq_true rfl, Nat.le_of_ble_eq_true rfl, hc79, hc80⟩ dL_law_386 xm_kx (xm_ki (fun r82 S81 h1 => ?_))
  refine x_istore (L' := [(6, xm_i r82), (5, xm_i r73), (0, xm_w0 b), (1, xm_r x1), (2, xm_r x2), (3, xm_r x3), (4, xm_i x4)]) C dL_law_389 (by decide) rfl ?_
  refine x_aload_n C 4 dL_law_391 rfl rfl ?_
  obtain ⟨n83, hr84, h1⟩ := h1
  obtain ⟨ht85, h1⟩ := h1
  obtain ⟨hc86, hc87, h1⟩ := h1
  refine x_callV (rm' := rm_X12_thrown) (n := n83) C (kp_X12_thrown_met h1) lk_171 gw_941 gw_942 xv_12 rfl hr84 ht85 rfl (Nat.le_of_ble_eq_true rfl) ⟨Nat.le_of_ble_eq_true rfl, Nat.le_of_ble_eq_true rfl, hc86, hc87⟩ dL_law_392 xm_kx (xm_ki (fun r89 S88 h1 => ?_))
  refine x_iload C 1 dL_law_395 rfl ?_
  refine x_icmp_eq (tgt := 402) C dL_law_397 (by decide) (fun z9 => ?_) (fun z9 => ?_)
  · have h1 := h1.1 z9
    refine x_iload C 1 dL_law_402 rfl ?_
    refine x_if_ne (tgt := 419) C dL_law_404 (by decide) (fun z9 => ?_) (fun z9 => ?_)
    · have h1 := h1.1 z9
      refine x_keep (L' := [(0, xm_w0 b), (1, xm_r x1), (2, xm_r x2), (3, xm_r x3), (4, xm_i x4)]) C [2, 3, 4, 5, 6] rfl ?_
      exact kp_L_law_419 b len xs x1 x2 x3 x4 S88 (kc + 2) (ks + 12) C N hSc hg hZ23 h1
    · have h1 := h1.2 z9
      refine x_aload_n C 5 dL_law_407 rfl rfl ?_
      refine x_iconst (v := (0 : Int32)) C dL_law_408 (by decide) ?_
      obtain ⟨n90, hr91, h1⟩ := h1
      obtain ⟨z93, ht92, h1⟩ := h1
      obtain ⟨hi94, h1⟩ := h1
      refine x_lald (n := n90) C hr91 ht92 hi94 dL_law_409 ?_
      refine x_iload C 0 dL_law_410 rfl ?_
      refine x_i2l C dL_law_412 ?_
      refine x_lcmp C dL_law_413 ?_
      refine x_if_eq (tgt := 419) C dL_law_414 (by decide) (fun z9 => ?_) (fun z9 => ?_)
      · have h1 := h1.1 z9
        refine x_keep (L' := [(0, xm_w0 b), (1, xm_r x1), (2, xm_r x2), (3, xm_r x3), (4, xm_i x4)]) C [2, 3, 4, 5, 6] rfl ?_
        exact kp_L_law_419 b len xs x1 x2 x3 x4 S88 (kc + 2) (ks + 12) C N hSc hg hZ23 h1
      · have h1 := h1.2 z9
        refine x_iconst (v := (0 : Int32)) C dL_law_417 (by decide) ?_
        obtain ⟨hc95, hc96, h1⟩ := h1
        exact x_zret C hc95 hc96 rfl (by decide) dL_law_418 (hg _ _ h1)
  · have h1 := h1.2 z9
    refine x_iconst (v := (0 : Int32)) C dL_law_400 (by decide) ?_
    obtain ⟨hc97, hc98, h1⟩ := h1
    exact x_zret C hc97 hc98 rfl (by decide) dL_law_401 (hg _ _ h1)
def wp_L_law_523 (b len : Nat) (xs : Nat → Int32) (x1 : Option Nat) (x2 : Option Nat) (x3 : Option Nat) (x4 : Int32) (S : xm_S) (kc ks : Nat) (g : Int32 → xm_S → Prop) (Z23 : Option Nat → Option Nat → Option Nat → Int32 → xm_S → Nat → Nat → Prop) : Prop :=
  wp_L_law_2965 b len xs x1 x2 x3 x4 S kc ks g Z23
set_option maxRecDepth 100000 in
set_option maxHeartbeats 4000000 in
theorem kp_L_law_523 {K : xm_K} (b len : Nat) (xs : Nat → Int32) (x1 : Option Nat) (x2 : Option Nat) (x3 : Option Nat) (x4 : Int32) (S : xm_S) (kc ks : Nat) {g : Int32 → xm_S → Prop} {Z23 : Option Nat → Option Nat → Option Nat → Int32 → xm_S → Nat → Nat → Prop} (C : xm_Cx K cL_law RL 7 (some .boolean) rm_L_law) (N : xm_Nx K) (hSc : xm_Sc K b len xs) (hg : ∀ v S, g v S → xm_q K (some (xm_i v)) S) (hZ23 : ∀ x1 x2 x3 x4 S kc ks, Z23 x1 x2 x3 x4 S kc ks → xm_W K kc ks 23 [(0, xm_w0 b), (1, xm_r x1), (2, xm_r x2), (3, xm_r x3), (4, xm_i x4)] [] S) (h1 : wp_L_law_523 b len xs x1 x2 x3 x4 S kc ks g Z23) : xm_W K kc ks 523 [(0, xm_w0 b), (1, xm_r x1), (2, xm_r x2), (3, xm_r x3), (4, xm_i x4)] [] S := by
  unfold wp_L_law_523 at h1
  refine x_goto (tgt := 2965) C dL_law_523 (by decide) ?_
  exact kp_L_law_2965 b len xs x1 x2 x3 x4 S kc ks C N hSc hg hZ23 h1
def wp_L_law_422 (b len : Nat) (xs : Nat → Int32) (x1 : Option Nat) (x2 : Option Nat) (x3 : Option Nat) (x4 : Int32) (S : xm_S) (kc ks : Nat) (g : Int32 → xm_S → Prop) (Z23 : Option Nat → Option Nat → Option Nat → Int32 → xm_S → Nat → Nat → Prop) : Prop :=
  vp_in (x4 + (1 : Int32)) len ∧ vp_in (x4 + (nI 2)) len ∧ vp_in (x4 + (nI 3)) len ∧ vp_in (x4 + (nI 4)) len ∧ vp_in (x4 + (nI 5)) len ∧ kc + 15 ≤ 601024 ∧ ks + 76 ≤ 7293034 ∧ wp_L_version x1 (xs ((x4 + (1 : Int32))).toNatClampNeg) (xs ((x4 + (nI 2))).toNatClampNeg) (xs ((x4 + (nI 3))).toNatClampNeg) (xs ((x4 + (nI 4))).toNatClampNeg) (xs ((x4 + (nI 5))).toNatClampNeg) x3 S (fun r107 S106 => vp_in (x4 + (1 : Int32)) len ∧ vp_in (x4 + (nI 2)) len ∧ vp_in (x4 + (nI 3)) len ∧ vp_in (x4 + (nI 4)) len ∧ vp_in (x4 + (nI 5)) len ∧ ∃ n113, x2 = some n113 ∧ st_t S106 n113 = some (12, 0) ∧ (kc + 15) ≤ 601024 ∧ (ks + 76) ≤ 7293034 ∧ wp_X12_version n113 (xs ((x4 + (1 : Int32))).toNatClampNeg) (xs ((x4 + (nI 2))).toNatClampNeg) (xs ((x4 + (nI 3))).toNatClampNeg) (xs ((x4 + (nI 4))).toNatClampNeg) (xs ((x4 + (nI 5))).toNatClampNeg) S106 (fun r119 S118 => ∃ n120, x2 = some n120 ∧ st_t S118 n120 = some (12, 0) ∧ (kc + 15) ≤ 601024 ∧ (ks + 76) ≤ 7293034 ∧ wp_X12_thrown n120 S118 (fun r126 S125 => (r126 = r107 → (¬ r107 = 0 → wp_L_law_523 b len xs x1 x2 x3 x4 S125 (kc + 15) (ks + 76) g Z23) ∧ (r107 = 0 → ∃ n127, x3 = some n127 ∧ ∃ z130, st_t S125 n127 = some (103, z130) ∧ vp_in (0 : Int32) z130 ∧ ((lg_cmp (st_l S125 n127 ((0 : Int32)).toNatClampNeg) ((r119).toInt64)) = 0 → wp_L_law_523 b len xs x1 x2 x3 x4 S125 (kc + 15) (ks + 76) g Z23) ∧ (¬ (lg_cmp (st_l S125 n127 ((0 : Int32)).toNatClampNeg) ((r119).toInt64)) = 0 → (kc + 15) ≤ 601024 ∧ (ks + 76) ≤ 7293034 ∧ g (0 : Int32) S125))) ∧ (¬ r126 = r107 → (kc + 15) ≤ 601024 ∧ (ks + 76) ≤ 7293034 ∧ g (0 : Int32) S125))))
set_option maxRecDepth 100000 in
set_option maxHeartbeats 4000000 in
theorem kp_L_law_422 {K : xm_K} (b len : Nat) (xs : Nat → Int32) (x1 : Option Nat) (x2 : Option Nat) (x3 : Option Nat) (x4 : Int32) (S : xm_S) (kc ks : Nat) {g : Int32 → xm_S → Prop} {Z23 : Option Nat → Option Nat → Option Nat → Int32 → xm_S → Nat → Nat → Prop} (C : xm_Cx K cL_law RL 7 (some .boolean) rm_L_law) (N : xm_Nx K) (hSc : xm_Sc K b len xs) (hg : ∀ v S, g v S → xm_q K (some (xm_i v)) S) (hZ23 : ∀ x1 x2 x3 x4 S kc ks, Z23 x1 x2 x3 x4 S kc ks → xm_W K kc ks 23 [(0, xm_w0 b), (1, xm_r x1), (2, xm_r x2), (3, xm_r x3), (4, xm_i x4)] [] S) (h1 : wp_L_law_422 b len xs x1 x2 x3 x4 S kc ks g Z23) : xm_W K kc ks 422 [(0, xm_w0 b), (1, xm_r x1), (2, xm_r x2), (3, xm_r x3), (4, xm_i x4)] [] S := by
  unfold wp_L_law_422 at h1
  refine x_aload_n C 1 dL_law_422 rfl rfl ?_
  refine x_aload_n_w C 0 dL_law_423 rfl rfl ?_
  refine x_iload C 4 dL_law_424 rfl ?_
  refine x_iconst (v := (1 : Int32)) C dL_law_426 (by decide) ?_
  refine x_iadd C dL_law_427 ?_
  obtain ⟨hi99, h1⟩ := h1
  refine x_sald C hSc hi99 dL_law_428 ?_
  refine x_aload_n_w C 0 dL_law_429 rfl rfl ?_
  refine x_iload C 4 dL_law_430 rfl ?_
  refine x_iconst (v := (nI 2)) C dL_law_432 (by decide) ?_
  refine x_iadd C dL_law_433 ?_
  obtain ⟨hi100, h1⟩ := h1
  refine x_sald C hSc hi100 dL_law_434 ?_
  refine x_aload_n_w C 0 dL_law_435 rfl rfl ?_
  refine x_iload C 4 dL_law_436 rfl ?_
  refine x_iconst (v := (nI 3)) C dL_law_438 (by decide) ?_
  refine x_iadd C dL_law_439 ?_
  obtain ⟨hi101, h1⟩ := h1
  refine x_sald C hSc hi101 dL_law_440 ?_
  refine x_aload_n_w C 0 dL_law_441 rfl rfl ?_
  refine x_iload C 4 dL_law_442 rfl ?_
  refine x_iconst (v := (nI 4)) C dL_law_444 (by decide) ?_
  refine x_iadd C dL_law_445 ?_
  obtain ⟨hi102, h1⟩ := h1
  refine x_sald C hSc hi102 dL_law_446 ?_
  refine x_aload_n_w C 0 dL_law_447 rfl rfl ?_
  refine x_iload C 4 dL_law_448 rfl ?_
  refine x_iconst (v := (nI 5)) C dL_law_450 (by decide) ?_
  refine x_iadd C dL_law_451 ?_
  obtain ⟨hi103, h1⟩ := h1
  refine x_sald C hSc hi103 dL_law_452 ?_
  refine x_aload_n C 3 dL_law_453 rfl rfl ?_
  obtain ⟨hc104, hc105, h1⟩ := h1
  refine x_callSH (rm' := rm_L_version) (hh := [(0, 16, 19, 21), (0, 16, 23, 13), (0, 16, 27, 15)]) C (kp_L_version_met h1) gw_966 gw_932 gw_967 ⟨by decide, by decide, show Option.map _ (parseMethodDescriptor yL_version.desc) = some 7 from by decide +kernel⟩ gw_968 rfl (Nat.le_of_ble_eq_true rfl) ⟨Nat.le_of_ble_eq_true rfl, Nat.le_of_ble_eq_true rfl, hc104, hc105⟩ dL_law_454 xm_kx (xm_ki (fun r107 S106 h1 => ?_))
  refine x_istore (L' := [(5, xm_i r107), (0, xm_w0 b), (1, xm_r x1), (2, xm_r x2), (3, xm_r x3), (4, xm_i x4)]) C dL_law_457 (by decide) rfl ?_
  refine x_aload_n C 3 dL_law_459 rfl rfl ?_
  refine x_aload_n_w C 1 dL_law_460 rfl rfl ?_
  refine x_iload C 5 dL_law_461 rfl ?_
  refine x_iconst (v := (1 : Int32)) C dL_law_463 (by decide) ?_
  refine x_iadd C dL_law_464 ?_
  obtain ⟨hi108, h1⟩ := h1
  refine x_sald C hSc hi108 dL_law_465 ?_
  refine x_aload_n_w C 1 dL_law_466 rfl rfl ?_
  refine x_iload C 5 dL_law_467 rfl ?_
  refine x_iconst (v := (nI 2)) C dL_law_469 (by decide) ?_
  refine x_iadd C dL_law_470 ?_
  obtain ⟨hi109, h1⟩ := h1
  refine x_sald C hSc hi109 dL_law_471 ?_
  refine x_aload_n_w C 1 dL_law_472 rfl rfl ?_
  refine x_iload C 5 dL_law_473 rfl ?_
  refine x_iconst (v := (nI 3)) C dL_law_475 (by decide) ?_
  refine x_iadd C dL_law_476 ?_
  obtain ⟨hi110, h1⟩ := h1
  refine x_sald C hSc hi110 dL_law_477 ?_
  refine x_aload_n_w C 1 dL_law_478 rfl rfl ?_
  refine x_iload C 5 dL_law_479 rfl ?_
  refine x_iconst (v := (nI 4)) C dL_law_481 (by decide) ?_
  refine x_iadd C dL_law_482 ?_
  obtain ⟨hi111, h1⟩ := h1
  refine x_sald C hSc hi111 dL_law_483 ?_
  refine x_aload_n_w C 1 dL_law_484 rfl rfl ?_
  refine x_iload C 5 dL_law_485 rfl ?_
  refine x_iconst (v := (nI 5)) C dL_law_487 (by decide) ?_
  refine x_iadd C dL_law_488 ?_
  obtain ⟨hi112, h1⟩ := h1
  refine x_sald C hSc hi112 dL_law_489 ?_
  obtain ⟨n113, hr114, h1⟩ := h1
  obtain ⟨ht115, h1⟩ := h1
  obtain ⟨hc116, hc117, h1⟩ := h1
  refine x_callV (rm' := rm_X12_version) (n := n113) C (kp_X12_version_met h1) lk_177 gw_971 gw_972 xv_12 rfl hr114 ht115 rfl (Nat.le_of_ble_eq_true rfl) ⟨Nat.le_of_ble_eq_true rfl, Nat.le_of_ble_eq_true rfl, hc116, hc117⟩ dL_law_490 xm_kx (xm_ki (fun r119 S118 h1 => ?_))
  refine x_istore (L' := [(6, xm_i r119), (5, xm_i r107), (0, xm_w0 b), (1, xm_r x1), (2, xm_r x2), (3, xm_r x3), (4, xm_i x4)]) C dL_law_493 (by decide) rfl ?_
  refine x_aload_n C 4 dL_law_495 rfl rfl ?_
  obtain ⟨n120, hr121, h1⟩ := h1
  obtain ⟨ht122, h1⟩ := h1
  obtain ⟨hc123, hc124, h1⟩ := h1
  refine x_callV (rm' := rm_X12_thrown) (n := n120) C (kp_X12_thrown_met h1) lk_171 gw_941 gw_942 xv_12 rfl hr121 ht122 rfl (Nat.le_of_ble_eq_true rfl) ⟨Nat.le_of_ble_eq_true rfl, Nat.le_of_ble_eq_true rfl, hc123, hc124⟩ dL_law_496 xm_kx (xm_ki (fun r126 S125 h1 => ?_))
  refine x_iload C 1 dL_law_499 rfl ?_
  refine x_icmp_eq (tgt := 506) C dL_law_501 (by decide) (fun z9 => ?_) (fun z9 => ?_)
  · have h1 := h1.1 z9
    refine x_iload C 1 dL_law_506 rfl ?_
    refine x_if_ne (tgt := 523) C dL_law_508 (by decide) (fun z9 => ?_) (fun z9 => ?_)
    · have h1 := h1.1 z9
      refine x_keep (L' := [(0, xm_w0 b), (1, xm_r x1), (2, xm_r x2), (3, xm_r x3), (4, xm_i x4)]) C [2, 3, 4, 5, 6] rfl ?_
      exact kp_L_law_523 b len xs x1 x2 x3 x4 S125 (kc + 15) (ks + 76) C N hSc hg hZ23 h1
    · have h1 := h1.2 z9
      refine x_aload_n C 5 dL_law_511 rfl rfl ?_
      refine x_iconst (v := (0 : Int32)) C dL_law_512 (by decide) ?_
      obtain ⟨n127, hr128, h1⟩ := h1
      obtain ⟨z130, ht129, h1⟩ := h1
      obtain ⟨hi131, h1⟩ := h1
      refine x_lald (n := n127) C hr128 ht129 hi131 dL_law_513 ?_
      refine x_iload C 0 dL_law_514 rfl ?_
      refine x_i2l C dL_law_516 ?_
      refine x_lcmp C dL_law_517 ?_
      refine x_if_eq (tgt := 523) C dL_law_518 (by decide) (fun z9 => ?_) (fun z9 => ?_)
      · have h1 := h1.1 z9
        refine x_keep (L' := [(0, xm_w0 b), (1, xm_r x1), (2, xm_r x2), (3, xm_r x3), (4, xm_i x4)]) C [2, 3, 4, 5, 6] rfl ?_
        exact kp_L_law_523 b len xs x1 x2 x3 x4 S125 (kc + 15) (ks + 76) C N hSc hg hZ23 h1
      · have h1 := h1.2 z9
        refine x_iconst (v := (0 : Int32)) C dL_law_521 (by decide) ?_
        obtain ⟨hc132, hc133, h1⟩ := h1
        exact x_zret C hc132 hc133 rfl (by decide) dL_law_522 (hg _ _ h1)
  · have h1 := h1.2 z9
    refine x_iconst (v := (0 : Int32)) C dL_law_504 (by decide) ?_
    obtain ⟨hc134, hc135, h1⟩ := h1
    exact x_zret C hc134 hc135 rfl (by decide) dL_law_505 (hg _ _ h1)
def wp_L_law_641 (b len : Nat) (xs : Nat → Int32) (x1 : Option Nat) (x2 : Option Nat) (x3 : Option Nat) (x4 : Int32) (S : xm_S) (kc ks : Nat) (g : Int32 → xm_S → Prop) (Z23 : Option Nat → Option Nat → Option Nat → Int32 → xm_S → Nat → Nat → Prop) : Prop :=
  wp_L_law_2965 b len xs x1 x2 x3 x4 S kc ks g Z23
set_option maxRecDepth 100000 in
set_option maxHeartbeats 4000000 in
theorem kp_L_law_641 {K : xm_K} (b len : Nat) (xs : Nat → Int32) (x1 : Option Nat) (x2 : Option Nat) (x3 : Option Nat) (x4 : Int32) (S : xm_S) (kc ks : Nat) {g : Int32 → xm_S → Prop} {Z23 : Option Nat → Option Nat → Option Nat → Int32 → xm_S → Nat → Nat → Prop} (C : xm_Cx K cL_law RL 7 (some .boolean) rm_L_law) (N : xm_Nx K) (hSc : xm_Sc K b len xs) (hg : ∀ v S, g v S → xm_q K (some (xm_i v)) S) (hZ23 : ∀ x1 x2 x3 x4 S kc ks, Z23 x1 x2 x3 x4 S kc ks → xm_W K kc ks 23 [(0, xm_w0 b), (1, xm_r x1), (2, xm_r x2), (3, xm_r x3), (4, xm_i x4)] [] S) (h1 : wp_L_law_641 b len xs x1 x2 x3 x4 S kc ks g Z23) : xm_W K kc ks 641 [(0, xm_w0 b), (1, xm_r x1), (2, xm_r x2), (3, xm_r x3), (4, xm_i x4)] [] S := by
  unfold wp_L_law_641 at h1
  refine x_goto (tgt := 2965) C dL_law_641 (by decide) ?_
  exact kp_L_law_2965 b len xs x1 x2 x3 x4 S kc ks C N hSc hg hZ23 h1
def wp_L_law_526 (b len : Nat) (xs : Nat → Int32) (x1 : Option Nat) (x2 : Option Nat) (x3 : Option Nat) (x4 : Int32) (S : xm_S) (kc ks : Nat) (g : Int32 → xm_S → Prop) (Z23 : Option Nat → Option Nat → Option Nat → Int32 → xm_S → Nat → Nat → Prop) : Prop :=
  vp_in (x4 + (1 : Int32)) len ∧ vp_in (x4 + (nI 2)) len ∧ vp_in (x4 + (nI 3)) len ∧ vp_in (x4 + (nI 4)) len ∧ vp_in (x4 + (nI 5)) len ∧ vp_in (x4 + (nI 6)) len ∧ kc + 140 ≤ 601024 ∧ ks + 510 ≤ 7293034 ∧ wp_L_need x1 (xs ((x4 + (1 : Int32))).toNatClampNeg) (xs ((x4 + (nI 2))).toNatClampNeg) (xs ((x4 + (nI 3))).toNatClampNeg) (xs ((x4 + (nI 4))).toNatClampNeg) (xs ((x4 + (nI 5))).toNatClampNeg) (xs ((x4 + (nI 6))).toNatClampNeg) x3 S (fun r145 S144 => vp_in (x4 + (1 : Int32)) len ∧ vp_in (x4 + (nI 2)) len ∧ vp_in (x4 + (nI 3)) len ∧ vp_in (x4 + (nI 4)) len ∧ vp_in (x4 + (nI 5)) len ∧ vp_in (x4 + (nI 6)) len ∧ ∃ n152, x2 = some n152 ∧ st_t S144 n152 = some (12, 0) ∧ (kc + 140) ≤ 601024 ∧ (ks + 510) ≤ 7293034 ∧ wp_X12_need n152 (xs ((x4 + (1 : Int32))).toNatClampNeg) (xs ((x4 + (nI 2))).toNatClampNeg) (xs ((x4 + (nI 3))).toNatClampNeg) (xs ((x4 + (nI 4))).toNatClampNeg) (xs ((x4 + (nI 5))).toNatClampNeg) (xs ((x4 + (nI 6))).toNatClampNeg) S144 (fun r158 S157 => ∃ n159, x2 = some n159 ∧ st_t S157 n159 = some (12, 0) ∧ (kc + 140) ≤ 601024 ∧ (ks + 510) ≤ 7293034 ∧ wp_X12_thrown n159 S157 (fun r165 S164 => (r165 = r145 → (¬ r145 = 0 → wp_L_law_641 b len xs x1 x2 x3 x4 S164 (kc + 140) (ks + 510) g Z23) ∧ (r145 = 0 → ∃ n166, x3 = some n166 ∧ ∃ z169, st_t S164 n166 = some (103, z169) ∧ vp_in (0 : Int32) z169 ∧ ((lg_cmp (st_l S164 n166 ((0 : Int32)).toNatClampNeg) ((r158).toInt64)) = 0 → wp_L_law_641 b len xs x1 x2 x3 x4 S164 (kc + 140) (ks + 510) g Z23) ∧ (¬ (lg_cmp (st_l S164 n166 ((0 : Int32)).toNatClampNeg) ((r158).toInt64)) = 0 → (kc + 140) ≤ 601024 ∧ (ks + 510) ≤ 7293034 ∧ g (0 : Int32) S164))) ∧ (¬ r165 = r145 → (kc + 140) ≤ 601024 ∧ (ks + 510) ≤ 7293034 ∧ g (0 : Int32) S164))))
set_option maxRecDepth 100000 in
set_option maxHeartbeats 4000000 in
theorem kp_L_law_526 {K : xm_K} (b len : Nat) (xs : Nat → Int32) (x1 : Option Nat) (x2 : Option Nat) (x3 : Option Nat) (x4 : Int32) (S : xm_S) (kc ks : Nat) {g : Int32 → xm_S → Prop} {Z23 : Option Nat → Option Nat → Option Nat → Int32 → xm_S → Nat → Nat → Prop} (C : xm_Cx K cL_law RL 7 (some .boolean) rm_L_law) (N : xm_Nx K) (hSc : xm_Sc K b len xs) (hg : ∀ v S, g v S → xm_q K (some (xm_i v)) S) (hZ23 : ∀ x1 x2 x3 x4 S kc ks, Z23 x1 x2 x3 x4 S kc ks → xm_W K kc ks 23 [(0, xm_w0 b), (1, xm_r x1), (2, xm_r x2), (3, xm_r x3), (4, xm_i x4)] [] S) (h1 : wp_L_law_526 b len xs x1 x2 x3 x4 S kc ks g Z23) : xm_W K kc ks 526 [(0, xm_w0 b), (1, xm_r x1), (2, xm_r x2), (3, xm_r x3), (4, xm_i x4)] [] S := by
  unfold wp_L_law_526 at h1
  refine x_aload_n C 1 dL_law_526 rfl rfl ?_
  refine x_aload_n_w C 0 dL_law_527 rfl rfl ?_
  refine x_iload C 4 dL_law_528 rfl ?_
  refine x_iconst (v := (1 : Int32)) C dL_law_530 (by decide) ?_
  refine x_iadd C dL_law_531 ?_
  obtain ⟨hi136, h1⟩ := h1
  refine x_sald C hSc hi136 dL_law_532 ?_
  refine x_aload_n_w C 0 dL_law_533 rfl rfl ?_
  refine x_iload C 4 dL_law_534 rfl ?_
  refine x_iconst (v := (nI 2)) C dL_law_536 (by decide) ?_
  refine x_iadd C dL_law_537 ?_
  obtain ⟨hi137, h1⟩ := h1
  refine x_sald C hSc hi137 dL_law_538 ?_
  refine x_aload_n_w C 0 dL_law_539 rfl rfl ?_
  refine x_iload C 4 dL_law_540 rfl ?_
  refine x_iconst (v := (nI 3)) C dL_law_542 (by decide) ?_
  refine x_iadd C dL_law_543 ?_
  obtain ⟨hi138, h1⟩ := h1
  refine x_sald C hSc hi138 dL_law_544 ?_
  refine x_aload_n_w C 0 dL_law_545 rfl rfl ?_
  refine x_iload C 4 dL_law_546 rfl ?_
  refine x_iconst (v := (nI 4)) C dL_law_548 (by decide) ?_
  refine x_iadd C dL_law_549 ?_
  obtain ⟨hi139, h1⟩ := h1
  refine x_sald C hSc hi139 dL_law_550 ?_
  refine x_aload_n_w C 0 dL_law_551 rfl rfl ?_
  refine x_iload C 4 dL_law_552 rfl ?_
  refine x_iconst (v := (nI 5)) C dL_law_554 (by decide) ?_
  refine x_iadd C dL_law_555 ?_
  obtain ⟨hi140, h1⟩ := h1
  refine x_sald C hSc hi140 dL_law_556 ?_
  refine x_aload_n_w C 0 dL_law_557 rfl rfl ?_
  refine x_iload C 4 dL_law_558 rfl ?_
  refine x_bipush (v := (nI 6)) C dL_law_560 (by decide) ?_
  refine x_iadd C dL_law_562 ?_
  obtain ⟨hi141, h1⟩ := h1
  refine x_sald C hSc hi141 dL_law_563 ?_
  refine x_aload_n C 3 dL_law_564 rfl rfl ?_
  obtain ⟨hc142, hc143, h1⟩ := h1
  refine x_callSH (rm' := rm_L_need) (hh := [(0, 18, 21, 21), (0, 18, 25, 13), (0, 18, 29, 15)]) C (kp_L_need_met h1) gw_973 gw_932 gw_974 ⟨by decide, by decide, show Option.map _ (parseMethodDescriptor yL_need.desc) = some 8 from by decide +kernel⟩ gw_975 rfl (Nat.le_of_ble_eq_true rfl) ⟨Nat.le_of_ble_eq_true rfl, Nat.le_of_ble_eq_true rfl, hc142, hc143⟩ dL_law_565 xm_kx (xm_ki (fun r145 S144 h1 => ?_))
  refine x_istore (L' := [(5, xm_i r145), (0, xm_w0 b), (1, xm_r x1), (2, xm_r x2), (3, xm_r x3), (4, xm_i x4)]) C dL_law_568 (by decide) rfl ?_
  refine x_aload_n C 3 dL_law_570 rfl rfl ?_
  refine x_aload_n_w C 1 dL_law_571 rfl rfl ?_
  refine x_iload C 5 dL_law_572 rfl ?_
  refine x_iconst (v := (1 : Int32)) C dL_law_574 (by decide) ?_
  refine x_iadd C dL_law_575 ?_
  obtain ⟨hi146, h1⟩ := h1
  refine x_sald C hSc hi146 dL_law_576 ?_
  refine x_aload_n_w C 1 dL_law_577 rfl rfl ?_
  refine x_iload C 5 dL_law_578 rfl ?_
  refine x_iconst (v := (nI 2)) C dL_law_580 (by decide) ?_
  refine x_iadd C dL_law_581 ?_
  obtain ⟨hi147, h1⟩ := h1
  refine x_sald C hSc hi147 dL_law_582 ?_
  refine x_aload_n_w C 1 dL_law_583 rfl rfl ?_
  refine x_iload C 5 dL_law_584 rfl ?_
  refine x_iconst (v := (nI 3)) C dL_law_586 (by decide) ?_
  refine x_iadd C dL_law_587 ?_
  obtain ⟨hi148, h1⟩ := h1
  refine x_sald C hSc hi148 dL_law_588 ?_
  refine x_aload_n_w C 1 dL_law_589 rfl rfl ?_
  refine x_iload C 5 dL_law_590 rfl ?_
  refine x_iconst (v := (nI 4)) C dL_law_592 (by decide) ?_
  refine x_iadd C dL_law_593 ?_
  obtain ⟨hi149, h1⟩ := h1
  refine x_sald C hSc hi149 dL_law_594 ?_
  refine x_aload_n_w C 1 dL_law_595 rfl rfl ?_
  refine x_iload C 5 dL_law_596 rfl ?_
  refine x_iconst (v := (nI 5)) C dL_law_598 (by decide) ?_
  refine x_iadd C dL_law_599 ?_
  obtain ⟨hi150, h1⟩ := h1
  refine x_sald C hSc hi150 dL_law_600 ?_
  refine x_aload_n_w C 1 dL_law_601 rfl rfl ?_
  refine x_iload C 5 dL_law_602 rfl ?_
  refine x_bipush (v := (nI 6)) C dL_law_604 (by decide) ?_
  refine x_iadd C dL_law_606 ?_
  obtain ⟨hi151, h1⟩ := h1
  refine x_sald C hSc hi151 dL_law_607 ?_
  obtain ⟨n152, hr153, h1⟩ := h1
  obtain ⟨ht154, h1⟩ := h1
  obtain ⟨hc155, hc156, h1⟩ := h1
  refine x_callV (rm' := rm_X12_need) (n := n152) C (kp_X12_need_met h1) lk_178 gw_978 gw_979 xv_12 rfl hr153 ht154 rfl (Nat.le_of_ble_eq_true rfl) ⟨Nat.le_of_ble_eq_true rfl, Nat.le_of_ble_eq_true rfl, hc155, hc156⟩ dL_law_608 xm_kx (xm_ki (fun r158 S157 h1 => ?_))
  refine x_istore (L' := [(6, xm_i r158), (5, xm_i r145), (0, xm_w0 b), (1, xm_r x1), (2, xm_r x2), (3, xm_r x3), (4, xm_i x4)]) C dL_law_611 (by decide) rfl ?_
  refine x_aload_n C 4 dL_law_613 rfl rfl ?_
  obtain ⟨n159, hr160, h1⟩ := h1
  obtain ⟨ht161, h1⟩ := h1
  obtain ⟨hc162, hc163, h1⟩ := h1
  refine x_callV (rm' := rm_X12_thrown) (n := n159) C (kp_X12_thrown_met h1) lk_171 gw_941 gw_942 xv_12 rfl hr160 ht161 rfl (Nat.le_of_ble_eq_true rfl) ⟨Nat.le_of_ble_eq_true rfl, Nat.le_of_ble_eq_true rfl, hc162, hc163⟩ dL_law_614 xm_kx (xm_ki (fun r165 S164 h1 => ?_))
  refine x_iload C 1 dL_law_617 rfl ?_
  refine x_icmp_eq (tgt := 624) C dL_law_619 (by decide) (fun z9 => ?_) (fun z9 => ?_)
  · have h1 := h1.1 z9
    refine x_iload C 1 dL_law_624 rfl ?_
    refine x_if_ne (tgt := 641) C dL_law_626 (by decide) (fun z9 => ?_) (fun z9 => ?_)
    · have h1 := h1.1 z9
      refine x_keep (L' := [(0, xm_w0 b), (1, xm_r x1), (2, xm_r x2), (3, xm_r x3), (4, xm_i x4)]) C [2, 3, 4, 5, 6] rfl ?_
      exact kp_L_law_641 b len xs x1 x2 x3 x4 S164 (kc + 140) (ks + 510) C N hSc hg hZ23 h1
    · have h1 := h1.2 z9
      refine x_aload_n C 5 dL_law_629 rfl rfl ?_
      refine x_iconst (v := (0 : Int32)) C dL_law_630 (by decide) ?_
      obtain ⟨n166, hr167, h1⟩ := h1
      obtain ⟨z169, ht168, h1⟩ := h1
      obtain ⟨hi170, h1⟩ := h1
      refine x_lald (n := n166) C hr167 ht168 hi170 dL_law_631 ?_
      refine x_iload C 0 dL_law_632 rfl ?_
      refine x_i2l C dL_law_634 ?_
      refine x_lcmp C dL_law_635 ?_
      refine x_if_eq (tgt := 641) C dL_law_636 (by decide) (fun z9 => ?_) (fun z9 => ?_)
      · have h1 := h1.1 z9
        refine x_keep (L' := [(0, xm_w0 b), (1, xm_r x1), (2, xm_r x2), (3, xm_r x3), (4, xm_i x4)]) C [2, 3, 4, 5, 6] rfl ?_
        exact kp_L_law_641 b len xs x1 x2 x3 x4 S164 (kc + 140) (ks + 510) C N hSc hg hZ23 h1
      · have h1 := h1.2 z9
        refine x_iconst (v := (0 : Int32)) C dL_law_639 (by decide) ?_
        obtain ⟨hc171, hc172, h1⟩ := h1
        exact x_zret C hc171 hc172 rfl (by decide) dL_law_640 (hg _ _ h1)
  · have h1 := h1.2 z9
    refine x_iconst (v := (0 : Int32)) C dL_law_622 (by decide) ?_
    obtain ⟨hc173, hc174, h1⟩ := h1
    exact x_zret C hc173 hc174 rfl (by decide) dL_law_623 (hg _ _ h1)
def wp_L_law_721 (b len : Nat) (xs : Nat → Int32) (x1 : Option Nat) (x2 : Option Nat) (x3 : Option Nat) (x4 : Int32) (S : xm_S) (kc ks : Nat) (g : Int32 → xm_S → Prop) (Z23 : Option Nat → Option Nat → Option Nat → Int32 → xm_S → Nat → Nat → Prop) : Prop :=
  wp_L_law_2965 b len xs x1 x2 x3 x4 S kc ks g Z23
set_option maxRecDepth 100000 in
set_option maxHeartbeats 4000000 in
theorem kp_L_law_721 {K : xm_K} (b len : Nat) (xs : Nat → Int32) (x1 : Option Nat) (x2 : Option Nat) (x3 : Option Nat) (x4 : Int32) (S : xm_S) (kc ks : Nat) {g : Int32 → xm_S → Prop} {Z23 : Option Nat → Option Nat → Option Nat → Int32 → xm_S → Nat → Nat → Prop} (C : xm_Cx K cL_law RL 7 (some .boolean) rm_L_law) (N : xm_Nx K) (hSc : xm_Sc K b len xs) (hg : ∀ v S, g v S → xm_q K (some (xm_i v)) S) (hZ23 : ∀ x1 x2 x3 x4 S kc ks, Z23 x1 x2 x3 x4 S kc ks → xm_W K kc ks 23 [(0, xm_w0 b), (1, xm_r x1), (2, xm_r x2), (3, xm_r x3), (4, xm_i x4)] [] S) (h1 : wp_L_law_721 b len xs x1 x2 x3 x4 S kc ks g Z23) : xm_W K kc ks 721 [(0, xm_w0 b), (1, xm_r x1), (2, xm_r x2), (3, xm_r x3), (4, xm_i x4)] [] S := by
  unfold wp_L_law_721 at h1
  refine x_goto (tgt := 2965) C dL_law_721 (by decide) ?_
  exact kp_L_law_2965 b len xs x1 x2 x3 x4 S kc ks C N hSc hg hZ23 h1
def wp_L_law_644 (b len : Nat) (xs : Nat → Int32) (x1 : Option Nat) (x2 : Option Nat) (x3 : Option Nat) (x4 : Int32) (S : xm_S) (kc ks : Nat) (g : Int32 → xm_S → Prop) (Z23 : Option Nat → Option Nat → Option Nat → Int32 → xm_S → Nat → Nat → Prop) : Prop :=
  vp_in (x4 + (1 : Int32)) len ∧ vp_in (x4 + (nI 2)) len ∧ vp_in (x4 + (nI 3)) len ∧ kc + 137 ≤ 601024 ∧ ks + 492 ≤ 7293034 ∧ wp_L_conflict x1 (xs ((x4 + (1 : Int32))).toNatClampNeg) (xs ((x4 + (nI 2))).toNatClampNeg) (xs ((x4 + (nI 3))).toNatClampNeg) x3 S (fun r181 S180 => vp_in (x4 + (1 : Int32)) len ∧ vp_in (x4 + (nI 2)) len ∧ vp_in (x4 + (nI 3)) len ∧ ∃ n185, x2 = some n185 ∧ st_t S180 n185 = some (12, 0) ∧ (kc + 137) ≤ 601024 ∧ (ks + 492) ≤ 7293034 ∧ wp_X12_conflict n185 (xs ((x4 + (1 : Int32))).toNatClampNeg) (xs ((x4 + (nI 2))).toNatClampNeg) (xs ((x4 + (nI 3))).toNatClampNeg) S180 (fun r191 S190 => ∃ n192, x2 = some n192 ∧ st_t S190 n192 = some (12, 0) ∧ (kc + 137) ≤ 601024 ∧ (ks + 492) ≤ 7293034 ∧ wp_X12_thrown n192 S190 (fun r198 S197 => (r198 = r181 → (¬ r181 = 0 → wp_L_law_721 b len xs x1 x2 x3 x4 S197 (kc + 137) (ks + 492) g Z23) ∧ (r181 = 0 → ∃ n199, x3 = some n199 ∧ ∃ z202, st_t S197 n199 = some (103, z202) ∧ vp_in (0 : Int32) z202 ∧ ((lg_cmp (st_l S197 n199 ((0 : Int32)).toNatClampNeg) ((r191).toInt64)) = 0 → wp_L_law_721 b len xs x1 x2 x3 x4 S197 (kc + 137) (ks + 492) g Z23) ∧ (¬ (lg_cmp (st_l S197 n199 ((0 : Int32)).toNatClampNeg) ((r191).toInt64)) = 0 → (kc + 137) ≤ 601024 ∧ (ks + 492) ≤ 7293034 ∧ g (0 : Int32) S197))) ∧ (¬ r198 = r181 → (kc + 137) ≤ 601024 ∧ (ks + 492) ≤ 7293034 ∧ g (0 : Int32) S197))))
set_option maxRecDepth 100000 in
set_option maxHeartbeats 4000000 in
theorem kp_L_law_644 {K : xm_K} (b len : Nat) (xs : Nat → Int32) (x1 : Option Nat) (x2 : Option Nat) (x3 : Option Nat) (x4 : Int32) (S : xm_S) (kc ks : Nat) {g : Int32 → xm_S → Prop} {Z23 : Option Nat → Option Nat → Option Nat → Int32 → xm_S → Nat → Nat → Prop} (C : xm_Cx K cL_law RL 7 (some .boolean) rm_L_law) (N : xm_Nx K) (hSc : xm_Sc K b len xs) (hg : ∀ v S, g v S → xm_q K (some (xm_i v)) S) (hZ23 : ∀ x1 x2 x3 x4 S kc ks, Z23 x1 x2 x3 x4 S kc ks → xm_W K kc ks 23 [(0, xm_w0 b), (1, xm_r x1), (2, xm_r x2), (3, xm_r x3), (4, xm_i x4)] [] S) (h1 : wp_L_law_644 b len xs x1 x2 x3 x4 S kc ks g Z23) : xm_W K kc ks 644 [(0, xm_w0 b), (1, xm_r x1), (2, xm_r x2), (3, xm_r x3), (4, xm_i x4)] [] S := by
  unfold wp_L_law_644 at h1
  refine x_aload_n C 1 dL_law_644 rfl rfl ?_
  refine x_aload_n_w C 0 dL_law_645 rfl rfl ?_
  refine x_iload C 4 dL_law_646 rfl ?_
  refine x_iconst (v := (1 : Int32)) C dL_law_648 (by decide) ?_
  refine x_iadd C dL_law_649 ?_
  obtain ⟨hi175, h1⟩ := h1
  refine x_sald C hSc hi175 dL_law_650 ?_
  refine x_aload_n_w C 0 dL_law_651 rfl rfl ?_
  refine x_iload C 4 dL_law_652 rfl ?_
  refine x_iconst (v := (nI 2)) C dL_law_654 (by decide) ?_
  refine x_iadd C dL_law_655 ?_
  obtain ⟨hi176, h1⟩ := h1
  refine x_sald C hSc hi176 dL_law_656 ?_
  refine x_aload_n_w C 0 dL_law_657 rfl rfl ?_
  refine x_iload C 4 dL_law_658 rfl ?_
  refine x_iconst (v := (nI 3)) C dL_law_660 (by decide) ?_
  refine x_iadd C dL_law_661 ?_
  obtain ⟨hi177, h1⟩ := h1
  refine x_sald C hSc hi177 dL_law_662 ?_
  refine x_aload_n C 3 dL_law_663 rfl rfl ?_
  obtain ⟨hc178, hc179, h1⟩ := h1
  refine x_callSH (rm' := rm_L_conflict) (hh := [(0, 12, 15, 21), (0, 12, 19, 13), (0, 12, 23, 15)]) C (kp_L_conflict_met h1) gw_980 gw_932 gw_981 ⟨by decide, by decide, show Option.map _ (parseMethodDescriptor yL_conflict.desc) = some 5 from by decide +kernel⟩ gw_982 rfl (Nat.le_of_ble_eq_true rfl) ⟨Nat.le_of_ble_eq_true rfl, Nat.le_of_ble_eq_true rfl, hc178, hc179⟩ dL_law_664 xm_kx (xm_ki (fun r181 S180 h1 => ?_))
  refine x_istore (L' := [(5, xm_i r181), (0, xm_w0 b), (1, xm_r x1), (2, xm_r x2), (3, xm_r x3), (4, xm_i x4)]) C dL_law_667 (by decide) rfl ?_
  refine x_aload_n C 3 dL_law_669 rfl rfl ?_
  refine x_aload_n_w C 1 dL_law_670 rfl rfl ?_
  refine x_iload C 5 dL_law_671 rfl ?_
  refine x_iconst (v := (1 : Int32)) C dL_law_673 (by decide) ?_
  refine x_iadd C dL_law_674 ?_
  obtain ⟨hi182, h1⟩ := h1
  refine x_sald C hSc hi182 dL_law_675 ?_
  refine x_aload_n_w C 1 dL_law_676 rfl rfl ?_
  refine x_iload C 5 dL_law_677 rfl ?_
  refine x_iconst (v := (nI 2)) C dL_law_679 (by decide) ?_
  refine x_iadd C dL_law_680 ?_
  obtain ⟨hi183, h1⟩ := h1
  refine x_sald C hSc hi183 dL_law_681 ?_
  refine x_aload_n_w C 1 dL_law_682 rfl rfl ?_
  refine x_iload C 5 dL_law_683 rfl ?_
  refine x_iconst (v := (nI 3)) C dL_law_685 (by decide) ?_
  refine x_iadd C dL_law_686 ?_
  obtain ⟨hi184, h1⟩ := h1
  refine x_sald C hSc hi184 dL_law_687 ?_
  obtain ⟨n185, hr186, h1⟩ := h1
  obtain ⟨ht187, h1⟩ := h1
  obtain ⟨hc188, hc189, h1⟩ := h1
  refine x_callV (rm' := rm_X12_conflict) (n := n185) C (kp_X12_conflict_met h1) lk_179 gw_985 gw_986 xv_12 rfl hr186 ht187 rfl (Nat.le_of_ble_eq_true rfl) ⟨Nat.le_of_ble_eq_true rfl, Nat.le_of_ble_eq_true rfl, hc188, hc189⟩ dL_law_688 xm_kx (xm_ki (fun r191 S190 h1 => ?_))
  refine x_istore (L' := [(6, xm_i r191), (5, xm_i r181), (0, xm_w0 b), (1, xm_r x1), (2, xm_r x2), (3, xm_r x3), (4, xm_i x4)]) C dL_law_691 (by decide) rfl ?_
  refine x_aload_n C 4 dL_law_693 rfl rfl ?_
  obtain ⟨n192, hr193, h1⟩ := h1
  obtain ⟨ht194, h1⟩ := h1
  obtain ⟨hc195, hc196, h1⟩ := h1
  refine x_callV (rm' := rm_X12_thrown) (n := n192) C (kp_X12_thrown_met h1) lk_171 gw_941 gw_942 xv_12 rfl hr193 ht194 rfl (Nat.le_of_ble_eq_true rfl) ⟨Nat.le_of_ble_eq_true rfl, Nat.le_of_ble_eq_true rfl, hc195, hc196⟩ dL_law_694 xm_kx (xm_ki (fun r198 S197 h1 => ?_))
  refine x_iload C 1 dL_law_697 rfl ?_
  refine x_icmp_eq (tgt := 704) C dL_law_699 (by decide) (fun z9 => ?_) (fun z9 => ?_)
  · have h1 := h1.1 z9
    refine x_iload C 1 dL_law_704 rfl ?_
    refine x_if_ne (tgt := 721) C dL_law_706 (by decide) (fun z9 => ?_) (fun z9 => ?_)
    · have h1 := h1.1 z9
      refine x_keep (L' := [(0, xm_w0 b), (1, xm_r x1), (2, xm_r x2), (3, xm_r x3), (4, xm_i x4)]) C [2, 3, 4, 5, 6] rfl ?_
      exact kp_L_law_721 b len xs x1 x2 x3 x4 S197 (kc + 137) (ks + 492) C N hSc hg hZ23 h1
    · have h1 := h1.2 z9
      refine x_aload_n C 5 dL_law_709 rfl rfl ?_
      refine x_iconst (v := (0 : Int32)) C dL_law_710 (by decide) ?_
      obtain ⟨n199, hr200, h1⟩ := h1
      obtain ⟨z202, ht201, h1⟩ := h1
      obtain ⟨hi203, h1⟩ := h1
      refine x_lald (n := n199) C hr200 ht201 hi203 dL_law_711 ?_
      refine x_iload C 0 dL_law_712 rfl ?_
      refine x_i2l C dL_law_714 ?_
      refine x_lcmp C dL_law_715 ?_
      refine x_if_eq (tgt := 721) C dL_law_716 (by decide) (fun z9 => ?_) (fun z9 => ?_)
      · have h1 := h1.1 z9
        refine x_keep (L' := [(0, xm_w0 b), (1, xm_r x1), (2, xm_r x2), (3, xm_r x3), (4, xm_i x4)]) C [2, 3, 4, 5, 6] rfl ?_
        exact kp_L_law_721 b len xs x1 x2 x3 x4 S197 (kc + 137) (ks + 492) C N hSc hg hZ23 h1
      · have h1 := h1.2 z9
        refine x_iconst (v := (0 : Int32)) C dL_law_719 (by decide) ?_
        obtain ⟨hc204, hc205, h1⟩ := h1
        exact x_zret C hc204 hc205 rfl (by decide) dL_law_720 (hg _ _ h1)
  · have h1 := h1.2 z9
    refine x_iconst (v := (0 : Int32)) C dL_law_702 (by decide) ?_
    obtain ⟨hc206, hc207, h1⟩ := h1
    exact x_zret C hc206 hc207 rfl (by decide) dL_law_703 (hg _ _ h1)
def wp_L_law_813 (b len : Nat) (xs : Nat → Int32) (x1 : Option Nat) (x2 : Option Nat) (x3 : Option Nat) (x4 : Int32) (S : xm_S) (kc ks : Nat) (g : Int32 → xm_S → Prop) (Z23 : Option Nat → Option Nat → Option Nat → Int32 → xm_S → Nat → Nat → Prop) : Prop :=
  wp_L_law_2965 b len xs x1 x2 x3 x4 S kc ks g Z23
set_option maxRecDepth 100000 in
set_option maxHeartbeats 4000000 in
theorem kp_L_law_813 {K : xm_K} (b len : Nat) (xs : Nat → Int32) (x1 : Option Nat) (x2 : Option Nat) (x3 : Option Nat) (x4 : Int32) (S : xm_S) (kc ks : Nat) {g : Int32 → xm_S → Prop} {Z23 : Option Nat → Option Nat → Option Nat → Int32 → xm_S → Nat → Nat → Prop} (C : xm_Cx K cL_law RL 7 (some .boolean) rm_L_law) (N : xm_Nx K) (hSc : xm_Sc K b len xs) (hg : ∀ v S, g v S → xm_q K (some (xm_i v)) S) (hZ23 : ∀ x1 x2 x3 x4 S kc ks, Z23 x1 x2 x3 x4 S kc ks → xm_W K kc ks 23 [(0, xm_w0 b), (1, xm_r x1), (2, xm_r x2), (3, xm_r x3), (4, xm_i x4)] [] S) (h1 : wp_L_law_813 b len xs x1 x2 x3 x4 S kc ks g Z23) : xm_W K kc ks 813 [(0, xm_w0 b), (1, xm_r x1), (2, xm_r x2), (3, xm_r x3), (4, xm_i x4)] [] S := by
  unfold wp_L_law_813 at h1
  refine x_goto (tgt := 2965) C dL_law_813 (by decide) ?_
  exact kp_L_law_2965 b len xs x1 x2 x3 x4 S kc ks C N hSc hg hZ23 h1
def wp_L_law_724 (b len : Nat) (xs : Nat → Int32) (x1 : Option Nat) (x2 : Option Nat) (x3 : Option Nat) (x4 : Int32) (S : xm_S) (kc ks : Nat) (g : Int32 → xm_S → Prop) (Z23 : Option Nat → Option Nat → Option Nat → Int32 → xm_S → Nat → Nat → Prop) : Prop :=
  vp_in (x4 + (1 : Int32)) len ∧ vp_in (x4 + (nI 2)) len ∧ vp_in (x4 + (nI 3)) len ∧ vp_in (x4 + (nI 4)) len ∧ kc + 6 ≤ 601024 ∧ ks + 36 ≤ 7293034 ∧ wp_L_provide x1 (xs ((x4 + (1 : Int32))).toNatClampNeg) (xs ((x4 + (nI 2))).toNatClampNeg) (xs ((x4 + (nI 3))).toNatClampNeg) (xs ((x4 + (nI 4))).toNatClampNeg) x3 S (fun r215 S214 => vp_in (x4 + (1 : Int32)) len ∧ vp_in (x4 + (nI 2)) len ∧ vp_in (x4 + (nI 3)) len ∧ vp_in (x4 + (nI 4)) len ∧ ∃ n220, x2 = some n220 ∧ st_t S214 n220 = some (12, 0) ∧ (kc + 6) ≤ 601024 ∧ (ks + 36) ≤ 7293034 ∧ wp_X12_provide n220 (xs ((x4 + (1 : Int32))).toNatClampNeg) (xs ((x4 + (nI 2))).toNatClampNeg) (xs ((x4 + (nI 3))).toNatClampNeg) (xs ((x4 + (nI 4))).toNatClampNeg) S214 (fun r226 S225 => ∃ n227, x2 = some n227 ∧ st_t S225 n227 = some (12, 0) ∧ (kc + 6) ≤ 601024 ∧ (ks + 36) ≤ 7293034 ∧ wp_X12_thrown n227 S225 (fun r233 S232 => (r233 = r215 → (¬ r215 = 0 → wp_L_law_813 b len xs x1 x2 x3 x4 S232 (kc + 6) (ks + 36) g Z23) ∧ (r215 = 0 → ∃ n234, x3 = some n234 ∧ ∃ z237, st_t S232 n234 = some (103, z237) ∧ vp_in (0 : Int32) z237 ∧ ((lg_cmp (st_l S232 n234 ((0 : Int32)).toNatClampNeg) ((r226).toInt64)) = 0 → wp_L_law_813 b len xs x1 x2 x3 x4 S232 (kc + 6) (ks + 36) g Z23) ∧ (¬ (lg_cmp (st_l S232 n234 ((0 : Int32)).toNatClampNeg) ((r226).toInt64)) = 0 → (kc + 6) ≤ 601024 ∧ (ks + 36) ≤ 7293034 ∧ g (0 : Int32) S232))) ∧ (¬ r233 = r215 → (kc + 6) ≤ 601024 ∧ (ks + 36) ≤ 7293034 ∧ g (0 : Int32) S232))))
set_option maxRecDepth 100000 in
set_option maxHeartbeats 4000000 in
theorem kp_L_law_724 {K : xm_K} (b len : Nat) (xs : Nat → Int32) (x1 : Option Nat) (x2 : Option Nat) (x3 : Option Nat) (x4 : Int32) (S : xm_S) (kc ks : Nat) {g : Int32 → xm_S → Prop} {Z23 : Option Nat → Option Nat → Option Nat → Int32 → xm_S → Nat → Nat → Prop} (C : xm_Cx K cL_law RL 7 (some .boolean) rm_L_law) (N : xm_Nx K) (hSc : xm_Sc K b len xs) (hg : ∀ v S, g v S → xm_q K (some (xm_i v)) S) (hZ23 : ∀ x1 x2 x3 x4 S kc ks, Z23 x1 x2 x3 x4 S kc ks → xm_W K kc ks 23 [(0, xm_w0 b), (1, xm_r x1), (2, xm_r x2), (3, xm_r x3), (4, xm_i x4)] [] S) (h1 : wp_L_law_724 b len xs x1 x2 x3 x4 S kc ks g Z23) : xm_W K kc ks 724 [(0, xm_w0 b), (1, xm_r x1), (2, xm_r x2), (3, xm_r x3), (4, xm_i x4)] [] S := by
  unfold wp_L_law_724 at h1
  refine x_aload_n C 1 dL_law_724 rfl rfl ?_
  refine x_aload_n_w C 0 dL_law_725 rfl rfl ?_
  refine x_iload C 4 dL_law_726 rfl ?_
  refine x_iconst (v := (1 : Int32)) C dL_law_728 (by decide) ?_
  refine x_iadd C dL_law_729 ?_
  obtain ⟨hi208, h1⟩ := h1
  refine x_sald C hSc hi208 dL_law_730 ?_
  refine x_aload_n_w C 0 dL_law_731 rfl rfl ?_
  refine x_iload C 4 dL_law_732 rfl ?_
  refine x_iconst (v := (nI 2)) C dL_law_734 (by decide) ?_
  refine x_iadd C dL_law_735 ?_
  obtain ⟨hi209, h1⟩ := h1
  refine x_sald C hSc hi209 dL_law_736 ?_
  refine x_aload_n_w C 0 dL_law_737 rfl rfl ?_
  refine x_iload C 4 dL_law_738 rfl ?_
  refine x_iconst (v := (nI 3)) C dL_law_740 (by decide) ?_
  refine x_iadd C dL_law_741 ?_
  obtain ⟨hi210, h1⟩ := h1
  refine x_sald C hSc hi210 dL_law_742 ?_
  refine x_aload_n_w C 0 dL_law_743 rfl rfl ?_
  refine x_iload C 4 dL_law_744 rfl ?_
  refine x_iconst (v := (nI 4)) C dL_law_746 (by decide) ?_
  refine x_iadd C dL_law_747 ?_
  obtain ⟨hi211, h1⟩ := h1
  refine x_sald C hSc hi211 dL_law_748 ?_
  refine x_aload_n C 3 dL_law_749 rfl rfl ?_
  obtain ⟨hc212, hc213, h1⟩ := h1
  refine x_callSH (rm' := rm_L_provide) (hh := [(0, 14, 17, 21), (0, 14, 21, 13), (0, 14, 25, 15)]) C (kp_L_provide_met h1) gw_987 gw_932 gw_988 ⟨by decide, by decide, show Option.map _ (parseMethodDescriptor yL_provide.desc) = some 6 from by decide +kernel⟩ gw_989 rfl (Nat.le_of_ble_eq_true rfl) ⟨Nat.le_of_ble_eq_true rfl, Nat.le_of_ble_eq_true rfl, hc212, hc213⟩ dL_law_750 xm_kx (xm_ki (fun r215 S214 h1 => ?_))
  refine x_istore (L' := [(5, xm_i r215), (0, xm_w0 b), (1, xm_r x1), (2, xm_r x2), (3, xm_r x3), (4, xm_i x4)]) C dL_law_753 (by decide) rfl ?_
  refine x_aload_n C 3 dL_law_755 rfl rfl ?_
  refine x_aload_n_w C 1 dL_law_756 rfl rfl ?_
  refine x_iload C 5 dL_law_757 rfl ?_
  refine x_iconst (v := (1 : Int32)) C dL_law_759 (by decide) ?_
  refine x_iadd C dL_law_760 ?_
  obtain ⟨hi216, h1⟩ := h1
  refine x_sald C hSc hi216 dL_law_761 ?_
  refine x_aload_n_w C 1 dL_law_762 rfl rfl ?_
  refine x_iload C 5 dL_law_763 rfl ?_
  refine x_iconst (v := (nI 2)) C dL_law_765 (by decide) ?_
  refine x_iadd C dL_law_766 ?_
  obtain ⟨hi217, h1⟩ := h1
  refine x_sald C hSc hi217 dL_law_767 ?_
  refine x_aload_n_w C 1 dL_law_768 rfl rfl ?_
  refine x_iload C 5 dL_law_769 rfl ?_
  refine x_iconst (v := (nI 3)) C dL_law_771 (by decide) ?_
  refine x_iadd C dL_law_772 ?_
  obtain ⟨hi218, h1⟩ := h1
  refine x_sald C hSc hi218 dL_law_773 ?_
  refine x_aload_n_w C 1 dL_law_774 rfl rfl ?_
  refine x_iload C 5 dL_law_775 rfl ?_
  refine x_iconst (v := (nI 4)) C dL_law_777 (by decide) ?_
  refine x_iadd C dL_law_778 ?_
  obtain ⟨hi219, h1⟩ := h1
  refine x_sald C hSc hi219 dL_law_779 ?_
  obtain ⟨n220, hr221, h1⟩ := h1
  obtain ⟨ht222, h1⟩ := h1
  obtain ⟨hc223, hc224, h1⟩ := h1
  refine x_callV (rm' := rm_X12_provide) (n := n220) C (kp_X12_provide_met h1) lk_180 gw_992 gw_993 xv_12 rfl hr221 ht222 rfl (Nat.le_of_ble_eq_true rfl) ⟨Nat.le_of_ble_eq_true rfl, Nat.le_of_ble_eq_true rfl, hc223, hc224⟩ dL_law_780 xm_kx (xm_ki (fun r226 S225 h1 => ?_))
  refine x_istore (L' := [(6, xm_i r226), (5, xm_i r215), (0, xm_w0 b), (1, xm_r x1), (2, xm_r x2), (3, xm_r x3), (4, xm_i x4)]) C dL_law_783 (by decide) rfl ?_
  refine x_aload_n C 4 dL_law_785 rfl rfl ?_
  obtain ⟨n227, hr228, h1⟩ := h1
  obtain ⟨ht229, h1⟩ := h1
  obtain ⟨hc230, hc231, h1⟩ := h1
  refine x_callV (rm' := rm_X12_thrown) (n := n227) C (kp_X12_thrown_met h1) lk_171 gw_941 gw_942 xv_12 rfl hr228 ht229 rfl (Nat.le_of_ble_eq_true rfl) ⟨Nat.le_of_ble_eq_true rfl, Nat.le_of_ble_eq_true rfl, hc230, hc231⟩ dL_law_786 xm_kx (xm_ki (fun r233 S232 h1 => ?_))
  refine x_iload C 1 dL_law_789 rfl ?_
  refine x_icmp_eq (tgt := 796) C dL_law_791 (by decide) (fun z9 => ?_) (fun z9 => ?_)
  · have h1 := h1.1 z9
    refine x_iload C 1 dL_law_796 rfl ?_
    refine x_if_ne (tgt := 813) C dL_law_798 (by decide) (fun z9 => ?_) (fun z9 => ?_)
    · have h1 := h1.1 z9
      refine x_keep (L' := [(0, xm_w0 b), (1, xm_r x1), (2, xm_r x2), (3, xm_r x3), (4, xm_i x4)]) C [2, 3, 4, 5, 6] rfl ?_
      exact kp_L_law_813 b len xs x1 x2 x3 x4 S232 (kc + 6) (ks + 36) C N hSc hg hZ23 h1
    · have h1 := h1.2 z9
      refine x_aload_n C 5 dL_law_801 rfl rfl ?_
      refine x_iconst (v := (0 : Int32)) C dL_law_802 (by decide) ?_
      obtain ⟨n234, hr235, h1⟩ := h1
      obtain ⟨z237, ht236, h1⟩ := h1
      obtain ⟨hi238, h1⟩ := h1
      refine x_lald (n := n234) C hr235 ht236 hi238 dL_law_803 ?_
      refine x_iload C 0 dL_law_804 rfl ?_
      refine x_i2l C dL_law_806 ?_
      refine x_lcmp C dL_law_807 ?_
      refine x_if_eq (tgt := 813) C dL_law_808 (by decide) (fun z9 => ?_) (fun z9 => ?_)
      · have h1 := h1.1 z9
        refine x_keep (L' := [(0, xm_w0 b), (1, xm_r x1), (2, xm_r x2), (3, xm_r x3), (4, xm_i x4)]) C [2, 3, 4, 5, 6] rfl ?_
        exact kp_L_law_813 b len xs x1 x2 x3 x4 S232 (kc + 6) (ks + 36) C N hSc hg hZ23 h1
      · have h1 := h1.2 z9
        refine x_iconst (v := (0 : Int32)) C dL_law_811 (by decide) ?_
        obtain ⟨hc239, hc240, h1⟩ := h1
        exact x_zret C hc239 hc240 rfl (by decide) dL_law_812 (hg _ _ h1)
  · have h1 := h1.2 z9
    refine x_iconst (v := (0 : Int32)) C dL_law_794 (by decide) ?_
    obtain ⟨hc241, hc242, h1⟩ := h1
    exact x_zret C hc241 hc242 rfl (by decide) dL_law_795 (hg _ _ h1)
def wp_L_law_916 (b len : Nat) (xs : Nat → Int32) (x1 : Option Nat) (x2 : Option Nat) (x3 : Option Nat) (x4 : Int32) (S : xm_S) (kc ks : Nat) (g : Int32 → xm_S → Prop) (Z23 : Option Nat → Option Nat → Option Nat → Int32 → xm_S → Nat → Nat → Prop) : Prop :=
  wp_L_law_2965 b len xs x1 x2 x3 x4 S kc ks g Z23
set_option maxRecDepth 100000 in
set_option maxHeartbeats 4000000 in
theorem kp_L_law_916 {K : xm_K} (b len : Nat) (xs : Nat → Int32) (x1 : Option Nat) (x2 : Option Nat) (x3 : Option Nat) (x4 : Int32) (S : xm_S) (kc ks : Nat) {g : Int32 → xm_S → Prop} {Z23 : Option Nat → Option Nat → Option Nat → Int32 → xm_S → Nat → Nat → Prop} (C : xm_Cx K cL_law RL 7 (some .boolean) rm_L_law) (N : xm_Nx K) (hSc : xm_Sc K b len xs) (hg : ∀ v S, g v S → xm_q K (some (xm_i v)) S) (hZ23 : ∀ x1 x2 x3 x4 S kc ks, Z23 x1 x2 x3 x4 S kc ks → xm_W K kc ks 23 [(0, xm_w0 b), (1, xm_r x1), (2, xm_r x2), (3, xm_r x3), (4, xm_i x4)] [] S) (h1 : wp_L_law_916 b len xs x1 x2 x3 x4 S kc ks g Z23) : xm_W K kc ks 916 [(0, xm_w0 b), (1, xm_r x1), (2, xm_r x2), (3, xm_r x3), (4, xm_i x4)] [] S := by
  unfold wp_L_law_916 at h1
  refine x_goto (tgt := 2965) C dL_law_916 (by decide) ?_
  exact kp_L_law_2965 b len xs x1 x2 x3 x4 S kc ks C N hSc hg hZ23 h1
def wp_L_law_910 (b len : Nat) (xs : Nat → Int32) (x1 : Option Nat) (x2 : Option Nat) (x3 : Option Nat) (x4 : Int32) (s0 : Int64) (s1 : Int64) (S : xm_S) (kc ks : Nat) (g : Int32 → xm_S → Prop) (Z23 : Option Nat → Option Nat → Option Nat → Int32 → xm_S → Nat → Nat → Prop) : Prop :=
  ((lg_cmp s1 s0) = 0 → wp_L_law_916 b len xs x1 x2 x3 x4 S kc ks g Z23) ∧ (¬ (lg_cmp s1 s0) = 0 → kc ≤ 601024 ∧ ks ≤ 7293034 ∧ g (0 : Int32) S)
set_option maxRecDepth 100000 in
set_option maxHeartbeats 4000000 in
theorem kp_L_law_910 {K : xm_K} (b len : Nat) (xs : Nat → Int32) (x1 : Option Nat) (x2 : Option Nat) (x3 : Option Nat) (x4 : Int32) (s0 : Int64) (s1 : Int64) (S : xm_S) (kc ks : Nat) {g : Int32 → xm_S → Prop} {Z23 : Option Nat → Option Nat → Option Nat → Int32 → xm_S → Nat → Nat → Prop} (C : xm_Cx K cL_law RL 7 (some .boolean) rm_L_law) (N : xm_Nx K) (hSc : xm_Sc K b len xs) (hg : ∀ v S, g v S → xm_q K (some (xm_i v)) S) (hZ23 : ∀ x1 x2 x3 x4 S kc ks, Z23 x1 x2 x3 x4 S kc ks → xm_W K kc ks 23 [(0, xm_w0 b), (1, xm_r x1), (2, xm_r x2), (3, xm_r x3), (4, xm_i x4)] [] S) (h1 : wp_L_law_910 b len xs x1 x2 x3 x4 s0 s1 S kc ks g Z23) : xm_W K kc ks 910 [(0, xm_w0 b), (1, xm_r x1), (2, xm_r x2), (3, xm_r x3), (4, xm_i x4)] [xm_l s0, xm_l s1] S := by
  unfold wp_L_law_910 at h1
  refine x_lcmp C dL_law_910 ?_
  refine x_if_eq (tgt := 916) C dL_law_911 (by decide) (fun z9 => ?_) (fun z9 => ?_)
  · have h1 := h1.1 z9
    exact kp_L_law_916 b len xs x1 x2 x3 x4 S kc ks C N hSc hg hZ23 h1
  · have h1 := h1.2 z9
    refine x_iconst (v := (0 : Int32)) C dL_law_914 (by decide) ?_
    obtain ⟨hc243, hc244, h1⟩ := h1
    exact x_zret C hc243 hc244 rfl (by decide) dL_law_915 (hg _ _ h1)
def wp_L_law_876 (b len : Nat) (xs : Nat → Int32) (x1 : Option Nat) (x2 : Option Nat) (x3 : Option Nat) (x4 : Int32) (x5 : Int32) (s0 : Int32) (s1 : Int32) (s2 : Int32) (s3 : Option Nat) (S : xm_S) (kc ks : Nat) (g : Int32 → xm_S → Prop) (Z23 : Option Nat → Option Nat → Option Nat → Int32 → xm_S → Nat → Nat → Prop) : Prop :=
  ∃ n245, s3 = some n245 ∧ st_t S n245 = some (12, 0) ∧ kc ≤ 601024 ∧ ks ≤ 7293034 ∧ wp_X12_yank n245 s2 s1 s0 S (fun r251 S250 => ∃ n252, x2 = some n252 ∧ st_t S250 n252 = some (12, 0) ∧ kc ≤ 601024 ∧ ks ≤ 7293034 ∧ wp_X12_thrown n252 S250 (fun r258 S257 => (r258 = x5 → (¬ x5 = 0 → wp_L_law_916 b len xs x1 x2 x3 x4 S257 kc ks g Z23) ∧ (x5 = 0 → ∃ n259, x3 = some n259 ∧ ∃ z262, st_t S257 n259 = some (103, z262) ∧ vp_in (0 : Int32) z262 ∧ (r251 = 0 → wp_L_law_910 b len xs x1 x2 x3 x4 (0 : Int64) (st_l S257 n259 ((0 : Int32)).toNatClampNeg) S257 kc ks g Z23) ∧ (¬ r251 = 0 → wp_L_law_910 b len xs x1 x2 x3 x4 (1 : Int64) (st_l S257 n259 ((0 : Int32)).toNatClampNeg) S257 kc ks g Z23))) ∧ (¬ r258 = x5 → kc ≤ 601024 ∧ ks ≤ 7293034 ∧ g (0 : Int32) S257)))
set_option maxRecDepth 100000 in
set_option maxHeartbeats 4000000 in
theorem kp_L_law_876 {K : xm_K} (b len : Nat) (xs : Nat → Int32) (x1 : Option Nat) (x2 : Option Nat) (x3 : Option Nat) (x4 : Int32) (x5 : Int32) (s0 : Int32) (s1 : Int32) (s2 : Int32) (s3 : Option Nat) (S : xm_S) (kc ks : Nat) {g : Int32 → xm_S → Prop} {Z23 : Option Nat → Option Nat → Option Nat → Int32 → xm_S → Nat → Nat → Prop} (C : xm_Cx K cL_law RL 7 (some .boolean) rm_L_law) (N : xm_Nx K) (hSc : xm_Sc K b len xs) (hg : ∀ v S, g v S → xm_q K (some (xm_i v)) S) (hZ23 : ∀ x1 x2 x3 x4 S kc ks, Z23 x1 x2 x3 x4 S kc ks → xm_W K kc ks 23 [(0, xm_w0 b), (1, xm_r x1), (2, xm_r x2), (3, xm_r x3), (4, xm_i x4)] [] S) (h1 : wp_L_law_876 b len xs x1 x2 x3 x4 x5 s0 s1 s2 s3 S kc ks g Z23) : xm_W K kc ks 876 [(0, xm_w0 b), (1, xm_r x1), (2, xm_r x2), (3, xm_r x3), (4, xm_i x4), (5, xm_i x5)] [xm_i s0, xm_i s1, xm_i s2, xm_r s3] S := by
  unfold wp_L_law_876 at h1
  obtain ⟨n245, hr246, h1⟩ := h1
  obtain ⟨ht247, h1⟩ := h1
  obtain ⟨hc248, hc249, h1⟩ := h1
  refine x_callV (rm' := rm_X12_yank) (n := n245) C (kp_X12_yank_met h1) lk_181 gw_996 gw_997 xv_12 rfl hr246 ht247 rfl (Nat.le_of_ble_eq_true rfl) ⟨Nat.le_of_ble_eq_true rfl, Nat.le_of_ble_eq_true rfl, hc248, hc249⟩ dL_law_876 xm_kx (xm_ki (fun r251 S250 h1 => ?_))
  refine x_istore (L' := [(6, xm_i r251), (0, xm_w0 b), (1, xm_r x1), (2, xm_r x2), (3, xm_r x3), (4, xm_i x4), (5, xm_i x5)]) C dL_law_879 (by decide) rfl ?_
  refine x_aload_n C 3 dL_law_881 rfl rfl ?_
  obtain ⟨n252, hr253, h1⟩ := h1
  obtain ⟨ht254, h1⟩ := h1
  obtain ⟨hc255, hc256, h1⟩ := h1
  refine x_callV (rm' := rm_X12_thrown) (n := n252) C (kp_X12_thrown_met h1) lk_171 gw_941 gw_942 xv_12 rfl hr253 ht254 rfl (Nat.le_of_ble_eq_true rfl) ⟨Nat.le_of_ble_eq_true rfl, Nat.le_of_ble_eq_true rfl, hc255, hc256⟩ dL_law_882 xm_kx (xm_ki (fun r258 S257 h1 => ?_))
  refine x_iload C 6 dL_law_885 rfl ?_
  refine x_icmp_eq (tgt := 892) C dL_law_887 (by decide) (fun z9 => ?_) (fun z9 => ?_)
  · have h1 := h1.1 z9
    refine x_iload C 6 dL_law_892 rfl ?_
    refine x_if_ne (tgt := 916) C dL_law_894 (by decide) (fun z9 => ?_) (fun z9 => ?_)
    · have h1 := h1.1 z9
      refine x_keep (L' := [(0, xm_w0 b), (1, xm_r x1), (2, xm_r x2), (3, xm_r x3), (4, xm_i x4)]) C [1, 2, 3, 4, 5] rfl ?_
      exact kp_L_law_916 b len xs x1 x2 x3 x4 S257 kc ks C N hSc hg hZ23 h1
    · have h1 := h1.2 z9
      refine x_aload_n C 4 dL_law_897 rfl rfl ?_
      refine x_iconst (v := (0 : Int32)) C dL_law_898 (by decide) ?_
      obtain ⟨n259, hr260, h1⟩ := h1
      obtain ⟨z262, ht261, h1⟩ := h1
      obtain ⟨hi263, h1⟩ := h1
      refine x_lald (n := n259) C hr260 ht261 hi263 dL_law_899 ?_
      refine x_iload C 0 dL_law_900 rfl ?_
      refine x_if_eq (tgt := 909) C dL_law_902 (by decide) (fun z9 => ?_) (fun z9 => ?_)
      · have h1 := h1.1 z9
        refine x_lconst (v := (0 : Int64)) C dL_law_909 (by decide) ?_
        refine x_keep (L' := [(0, xm_w0 b), (1, xm_r x1), (2, xm_r x2), (3, xm_r x3), (4, xm_i x4)]) C [1, 2, 3, 4, 5] rfl ?_
        exact kp_L_law_910 b len xs x1 x2 x3 x4 (0 : Int64) (st_l S257 n259 ((0 : Int32)).toNatClampNeg) S257 kc ks C N hSc hg hZ23 h1
      · have h1 := h1.2 z9
        refine x_lconst (v := (1 : Int64)) C dL_law_905 (by decide) ?_
        refine x_goto (tgt := 910) C dL_law_906 (by decide) ?_
        refine x_keep (L' := [(0, xm_w0 b), (1, xm_r x1), (2, xm_r x2), (3, xm_r x3), (4, xm_i x4)]) C [1, 2, 3, 4, 5] rfl ?_
        exact kp_L_law_910 b len xs x1 x2 x3 x4 (1 : Int64) (st_l S257 n259 ((0 : Int32)).toNatClampNeg) S257 kc ks C N hSc hg hZ23 h1
  · have h1 := h1.2 z9
    refine x_iconst (v := (0 : Int32)) C dL_law_890 (by decide) ?_
    obtain ⟨hc264, hc265, h1⟩ := h1
    exact x_zret C hc264 hc265 rfl (by decide) dL_law_891 (hg _ _ h1)
def wp_L_law_843 (b len : Nat) (xs : Nat → Int32) (x1 : Option Nat) (x2 : Option Nat) (x3 : Option Nat) (x4 : Int32) (s0 : Int32) (s1 : Int32) (s2 : Int32) (s3 : Option Nat) (S : xm_S) (kc ks : Nat) (g : Int32 → xm_S → Prop) (Z23 : Option Nat → Option Nat → Option Nat → Int32 → xm_S → Nat → Nat → Prop) : Prop :=
  kc + 2 ≤ 601024 ∧ ks + 12 ≤ 7293034 ∧ wp_L_yank s3 s2 s1 s0 x3 S (fun r269 S268 => vp_in (x4 + (1 : Int32)) len ∧ vp_in (x4 + (nI 2)) len ∧ vp_in (x4 + (nI 3)) len ∧ ((xs ((x4 + (nI 3))).toNatClampNeg) = 0 → wp_L_law_876 b len xs x1 x2 x3 x4 r269 (0 : Int32) (xs ((x4 + (nI 2))).toNatClampNeg) (xs ((x4 + (1 : Int32))).toNatClampNeg) x2 S268 (kc + 2) (ks + 12) g Z23) ∧ (¬ (xs ((x4 + (nI 3))).toNatClampNeg) = 0 → wp_L_law_876 b len xs x1 x2 x3 x4 r269 (1 : Int32) (xs ((x4 + (nI 2))).toNatClampNeg) (xs ((x4 + (1 : Int32))).toNatClampNeg) x2 S268 (kc + 2) (ks + 12) g Z23))
set_option maxRecDepth 100000 in
set_option maxHeartbeats 4000000 in
theorem kp_L_law_843 {K : xm_K} (b len : Nat) (xs : Nat → Int32) (x1 : Option Nat) (x2 : Option Nat) (x3 : Option Nat) (x4 : Int32) (s0 : Int32) (s1 : Int32) (s2 : Int32) (s3 : Option Nat) (S : xm_S) (kc ks : Nat) {g : Int32 → xm_S → Prop} {Z23 : Option Nat → Option Nat → Option Nat → Int32 → xm_S → Nat → Nat → Prop} (C : xm_Cx K cL_law RL 7 (some .boolean) rm_L_law) (N : xm_Nx K) (hSc : xm_Sc K b len xs) (hg : ∀ v S, g v S → xm_q K (some (xm_i v)) S) (hZ23 : ∀ x1 x2 x3 x4 S kc ks, Z23 x1 x2 x3 x4 S kc ks → xm_W K kc ks 23 [(0, xm_w0 b), (1, xm_r x1), (2, xm_r x2), (3, xm_r x3), (4, xm_i x4)] [] S) (h1 : wp_L_law_843 b len xs x1 x2 x3 x4 s0 s1 s2 s3 S kc ks g Z23) : xm_W K kc ks 843 [(0, xm_w0 b), (1, xm_r x1), (2, xm_r x2), (3, xm_r x3), (4, xm_i x4)] [xm_i s0, xm_i s1, xm_i s2, xm_r s3] S := by
  unfold wp_L_law_843 at h1
  refine x_aload_n C 3 dL_law_843 rfl rfl ?_
  obtain ⟨hc266, hc267, h1⟩ := h1
  refine x_callSH (rm' := rm_L_yank) (hh := [(0, 19, 22, 21)]) C (kp_L_yank_met h1) gw_998 gw_932 gw_999 ⟨by decide, by decide, show Option.map _ (parseMethodDescriptor yL_yank.desc) = some 5 from by decide +kernel⟩ gw_1000 rfl (Nat.le_of_ble_eq_true rfl) ⟨Nat.le_of_ble_eq_true rfl, Nat.le_of_ble_eq_true rfl, hc266, hc267⟩ dL_law_844 xm_kx (xm_ki (fun r269 S268 h1 => ?_))
  refine x_istore (L' := [(5, xm_i r269), (0, xm_w0 b), (1, xm_r x1), (2, xm_r x2), (3, xm_r x3), (4, xm_i x4)]) C dL_law_847 (by decide) rfl ?_
  refine x_aload_n C 3 dL_law_849 rfl rfl ?_
  refine x_aload_n_w C 1 dL_law_850 rfl rfl ?_
  refine x_iload C 5 dL_law_851 rfl ?_
  refine x_iconst (v := (1 : Int32)) C dL_law_853 (by decide) ?_
  refine x_iadd C dL_law_854 ?_
  obtain ⟨hi270, h1⟩ := h1
  refine x_sald C hSc hi270 dL_law_855 ?_
  refine x_aload_n_w C 1 dL_law_856 rfl rfl ?_
  refine x_iload C 5 dL_law_857 rfl ?_
  refine x_iconst (v := (nI 2)) C dL_law_859 (by decide) ?_
  refine x_iadd C dL_law_860 ?_
  obtain ⟨hi271, h1⟩ := h1
  refine x_sald C hSc hi271 dL_law_861 ?_
  refine x_aload_n_w C 1 dL_law_862 rfl rfl ?_
  refine x_iload C 5 dL_law_863 rfl ?_
  refine x_iconst (v := (nI 3)) C dL_law_865 (by decide) ?_
  refine x_iadd C dL_law_866 ?_
  obtain ⟨hi272, h1⟩ := h1
  refine x_sald C hSc hi272 dL_law_867 ?_
  refine x_if_eq (tgt := 875) C dL_law_868 (by decide) (fun z9 => ?_) (fun z9 => ?_)
  · have h1 := h1.1 z9
    refine x_iconst (v := (0 : Int32)) C dL_law_875 (by decide) ?_
    refine x_keep (L' := [(0, xm_w0 b), (1, xm_r x1), (2, xm_r x2), (3, xm_r x3), (4, xm_i x4), (5, xm_i r269)]) C [1, 2, 3, 4, 5, 0] rfl ?_
    exact kp_L_law_876 b len xs x1 x2 x3 x4 r269 (0 : Int32) (xs ((x4 + (nI 2))).toNatClampNeg) (xs ((x4 + (1 : Int32))).toNatClampNeg) x2 S268 (kc + 2) (ks + 12) C N hSc hg hZ23 h1
  · have h1 := h1.2 z9
    refine x_iconst (v := (1 : Int32)) C dL_law_871 (by decide) ?_
    refine x_goto (tgt := 876) C dL_law_872 (by decide) ?_
    refine x_keep (L' := [(0, xm_w0 b), (1, xm_r x1), (2, xm_r x2), (3, xm_r x3), (4, xm_i x4), (5, xm_i r269)]) C [1, 2, 3, 4, 5, 0] rfl ?_
    exact kp_L_law_876 b len xs x1 x2 x3 x4 r269 (1 : Int32) (xs ((x4 + (nI 2))).toNatClampNeg) (xs ((x4 + (1 : Int32))).toNatClampNeg) x2 S268 (kc + 2) (ks + 12) C N hSc hg hZ23 h1
def wp_L_law_816 (b len : Nat) (xs : Nat → Int32) (x1 : Option Nat) (x2 : Option Nat) (x3 : Option Nat) (x4 : Int32) (S : xm_S) (kc ks : Nat) (g : Int32 → xm_S → Prop) (Z23 : Option Nat → Option Nat → Option Nat → Int32 → xm_S → Nat → Nat → Prop) : Prop :=
  vp_in (x4 + (1 : Int32)) len ∧ vp_in (x4 + (nI 2)) len ∧ vp_in (x4 + (nI 3)) len ∧ ((xs ((x4 + (nI 3))).toNatClampNeg) = 0 → wp_L_law_843 b len xs x1 x2 x3 x4 (0 : Int32) (xs ((x4 + (nI 2))).toNatClampNeg) (xs ((x4 + (1 : Int32))).toNatClampNeg) x1 S kc ks g Z23) ∧ (¬ (xs ((x4 + (nI 3))).toNatClampNeg) = 0 → wp_L_law_843 b len xs x1 x2 x3 x4 (1 : Int32) (xs ((x4 + (nI 2))).toNatClampNeg) (xs ((x4 + (1 : Int32))).toNatClampNeg) x1 S kc ks g Z23)
set_option maxRecDepth 100000 in
set_option maxHeartbeats 4000000 in
theorem kp_L_law_816 {K : xm_K} (b len : Nat) (xs : Nat → Int32) (x1 : Option Nat) (x2 : Option Nat) (x3 : Option Nat) (x4 : Int32) (S : xm_S) (kc ks : Nat) {g : Int32 → xm_S → Prop} {Z23 : Option Nat → Option Nat → Option Nat → Int32 → xm_S → Nat → Nat → Prop} (C : xm_Cx K cL_law RL 7 (some .boolean) rm_L_law) (N : xm_Nx K) (hSc : xm_Sc K b len xs) (hg : ∀ v S, g v S → xm_q K (some (xm_i v)) S) (hZ23 : ∀ x1 x2 x3 x4 S kc ks, Z23 x1 x2 x3 x4 S kc ks → xm_W K kc ks 23 [(0, xm_w0 b), (1, xm_r x1), (2, xm_r x2), (3, xm_r x3), (4, xm_i x4)] [] S) (h1 : wp_L_law_816 b len xs x1 x2 x3 x4 S kc ks g Z23) : xm_W K kc ks 816 [(0, xm_w0 b), (1, xm_r x1), (2, xm_r x2), (3, xm_r x3), (4, xm_i x4)] [] S := by
  unfold wp_L_law_816 at h1
  refine x_aload_n C 1 dL_law_816 rfl rfl ?_
  refine x_aload_n_w C 0 dL_law_817 rfl rfl ?_
  refine x_iload C 4 dL_law_818 rfl ?_
  refine x_iconst (v := (1 : Int32)) C dL_law_820 (by decide) ?_
  refine x_iadd C dL_law_821 ?_
  obtain ⟨hi273, h1⟩ := h1
  refine x_sald C hSc hi273 dL_law_822 ?_
  refine x_aload_n_w C 0 dL_law_823 rfl rfl ?_
  refine x_iload C 4 dL_law_824 rfl ?_
  refine x_iconst (v := (nI 2)) C dL_law_826 (by decide) ?_
  refine x_iadd C dL_law_827 ?_
  obtain ⟨hi274, h1⟩ := h1
  refine x_sald C hSc hi274 dL_law_828 ?_
  refine x_aload_n_w C 0 dL_law_829 rfl rfl ?_
  refine x_iload C 4 dL_law_830 rfl ?_
  refine x_iconst (v := (nI 3)) C dL_law_832 (by decide) ?_
  refine x_iadd C dL_law_833 ?_
  obtain ⟨hi275, h1⟩ := h1
  refine x_sald C hSc hi275 dL_law_834 ?_
  refine x_if_eq (tgt := 842) C dL_law_835 (by decide) (fun z9 => ?_) (fun z9 => ?_)
  · have h1 := h1.1 z9
    refine x_iconst (v := (0 : Int32)) C dL_law_842 (by decide) ?_
    exact kp_L_law_843 b len xs x1 x2 x3 x4 (0 : Int32) (xs ((x4 + (nI 2))).toNatClampNeg) (xs ((x4 + (1 : Int32))).toNatClampNeg) x1 S kc ks C N hSc hg hZ23 h1
  · have h1 := h1.2 z9
    refine x_iconst (v := (1 : Int32)) C dL_law_838 (by decide) ?_
    refine x_goto (tgt := 843) C dL_law_839 (by decide) ?_
    exact kp_L_law_843 b len xs x1 x2 x3 x4 (1 : Int32) (xs ((x4 + (nI 2))).toNatClampNeg) (xs ((x4 + (1 : Int32))).toNatClampNeg) x1 S kc ks C N hSc hg hZ23 h1
def wp_L_law_996 (b len : Nat) (xs : Nat → Int32) (x1 : Option Nat) (x2 : Option Nat) (x3 : Option Nat) (x4 : Int32) (S : xm_S) (kc ks : Nat) (g : Int32 → xm_S → Prop) (Z23 : Option Nat → Option Nat → Option Nat → Int32 → xm_S → Nat → Nat → Prop) : Prop :=
  wp_L_law_2965 b len xs x1 x2 x3 x4 S kc ks g Z23
set_option maxRecDepth 100000 in
set_option maxHeartbeats 4000000 in
theorem kp_L_law_996 {K : xm_K} (b len : Nat) (xs : Nat → Int32) (x1 : Option Nat) (x2 : Option Nat) (x3 : Option Nat) (x4 : Int32) (S : xm_S) (kc ks : Nat) {g : Int32 → xm_S → Prop} {Z23 : Option Nat → Option Nat → Option Nat → Int32 → xm_S → Nat → Nat → Prop} (C : xm_Cx K cL_law RL 7 (some .boolean) rm_L_law) (N : xm_Nx K) (hSc : xm_Sc K b len xs) (hg : ∀ v S, g v S → xm_q K (some (xm_i v)) S) (hZ23 : ∀ x1 x2 x3 x4 S kc ks, Z23 x1 x2 x3 x4 S kc ks → xm_W K kc ks 23 [(0, xm_w0 b), (1, xm_r x1), (2, xm_r x2), (3, xm_r x3), (4, xm_i x4)] [] S) (h1 : wp_L_law_996 b len xs x1 x2 x3 x4 S kc ks g Z23) : xm_W K kc ks 996 [(0, xm_w0 b), (1, xm_r x1), (2, xm_r x2), (3, xm_r x3), (4, xm_i x4)] [] S := by
  unfold wp_L_law_996 at h1
  refine x_goto (tgt := 2965) C dL_law_996 (by decide) ?_
  exact kp_L_law_2965 b len xs x1 x2 x3 x4 S kc ks C N hSc hg hZ23 h1
def wp_L_law_919 (b len : Nat) (xs : Nat → Int32) (x1 : Option Nat) (x2 : Option Nat) (x3 : Option Nat) (x4 : Int32) (S : xm_S) (kc ks : Nat) (g : Int32 → xm_S → Prop) (Z23 : Option Nat → Option Nat → Option Nat → Int32 → xm_S → Nat → Nat → Prop) : Prop :=
  vp_in (x4 + (1 : Int32)) len ∧ vp_in (x4 + (nI 2)) len ∧ vp_in (x4 + (nI 3)) len ∧ kc + 4 ≤ 601024 ∧ ks + 24 ≤ 7293034 ∧ wp_L_compare x1 (xs ((x4 + (1 : Int32))).toNatClampNeg) (xs ((x4 + (nI 2))).toNatClampNeg) (xs ((x4 + (nI 3))).toNatClampNeg) x3 S (fun r282 S281 => vp_in (x4 + (1 : Int32)) len ∧ vp_in (x4 + (nI 2)) len ∧ vp_in (x4 + (nI 3)) len ∧ ∃ n286, x2 = some n286 ∧ st_t S281 n286 = some (12, 0) ∧ (kc + 4) ≤ 601024 ∧ (ks + 24) ≤ 7293034 ∧ wp_X12_compare n286 (xs ((x4 + (1 : Int32))).toNatClampNeg) (xs ((x4 + (nI 2))).toNatClampNeg) (xs ((x4 + (nI 3))).toNatClampNeg) S281 (fun r292 S291 => ∃ n293, x2 = some n293 ∧ st_t S291 n293 = some (12, 0) ∧ (kc + 4) ≤ 601024 ∧ (ks + 24) ≤ 7293034 ∧ wp_X12_thrown n293 S291 (fun r299 S298 => (r299 = r282 → (¬ r282 = 0 → wp_L_law_996 b len xs x1 x2 x3 x4 S298 (kc + 4) (ks + 24) g Z23) ∧ (r282 = 0 → ∃ n300, x3 = some n300 ∧ ∃ z303, st_t S298 n300 = some (103, z303) ∧ vp_in (0 : Int32) z303 ∧ ((lg_cmp (st_l S298 n300 ((0 : Int32)).toNatClampNeg) ((r292).toInt64)) = 0 → wp_L_law_996 b len xs x1 x2 x3 x4 S298 (kc + 4) (ks + 24) g Z23) ∧ (¬ (lg_cmp (st_l S298 n300 ((0 : Int32)).toNatClampNeg) ((r292).toInt64)) = 0 → (kc + 4) ≤ 601024 ∧ (ks + 24) ≤ 7293034 ∧ g (0 : Int32) S298))) ∧ (¬ r299 = r282 → (kc + 4) ≤ 601024 ∧ (ks + 24) ≤ 7293034 ∧ g (0 : Int32) S298))))
set_option maxRecDepth 100000 in
set_option maxHeartbeats 4000000 in
theorem kp_L_law_919 {K : xm_K} (b len : Nat) (xs : Nat → Int32) (x1 : Option Nat) (x2 : Option Nat) (x3 : Option Nat) (x4 : Int32) (S : xm_S) (kc ks : Nat) {g : Int32 → xm_S → Prop} {Z23 : Option Nat → Option Nat → Option Nat → Int32 → xm_S → Nat → Nat → Prop} (C : xm_Cx K cL_law RL 7 (some .boolean) rm_L_law) (N : xm_Nx K) (hSc : xm_Sc K b len xs) (hg : ∀ v S, g v S → xm_q K (some (xm_i v)) S) (hZ23 : ∀ x1 x2 x3 x4 S kc ks, Z23 x1 x2 x3 x4 S kc ks → xm_W K kc ks 23 [(0, xm_w0 b), (1, xm_r x1), (2, xm_r x2), (3, xm_r x3), (4, xm_i x4)] [] S) (h1 : wp_L_law_919 b len xs x1 x2 x3 x4 S kc ks g Z23) : xm_W K kc ks 919 [(0, xm_w0 b), (1, xm_r x1), (2, xm_r x2), (3, xm_r x3), (4, xm_i x4)] [] S := by
  unfold wp_L_law_919 at h1
  refine x_aload_n C 1 dL_law_919 rfl rfl ?_
  refine x_aload_n_w C 0 dL_law_920 rfl rfl ?_
  refine x_iload C 4 dL_law_921 rfl ?_
  refine x_iconst (v := (1 : Int32)) C dL_law_923 (by decide) ?_
  refine x_iadd C dL_law_924 ?_
  obtain ⟨hi276, h1⟩ := h1
  refine x_sald C hSc hi276 dL_law_925 ?_
  refine x_aload_n_w C 0 dL_law_926 rfl rfl ?_
  refine x_iload C 4 dL_law_927 rfl ?_
  refine x_iconst (v := (nI 2)) C dL_law_929 (by decide) ?_
  refine x_iadd C dL_law_930 ?_
  obtain ⟨hi277, h1⟩ := h1
  refine x_sald C hSc hi277 dL_law_931 ?_
  refine x_aload_n_w C 0 dL_law_932 rfl rfl ?_
  refine x_iload C 4 dL_law_933 rfl ?_
  refine x_iconst (v := (nI 3)) C dL_law_935 (by decide) ?_
  refine x_iadd C dL_law_936 ?_
  obtain ⟨hi278, h1⟩ := h1
  refine x_sald C hSc hi278 dL_law_937 ?_
  refine x_aload_n C 3 dL_law_938 rfl rfl ?_
  obtain ⟨hc279, hc280, h1⟩ := h1
  refine x_callSH (rm' := rm_L_compare) (hh := [(0, 12, 15, 21)]) C (kp_L_compare_met h1) gw_1001 gw_932 gw_1002 ⟨by decide, by decide, show Option.map _ (parseMethodDescriptor yL_compare.desc) = some 5 from by decide +kernel⟩ gw_1003 rfl (Nat.le_of_ble_eq_true rfl) ⟨Nat.le_of_ble_eq_true rfl, Nat.le_of_ble_eq_true rfl, hc279, hc280⟩ dL_law_939 xm_kx (xm_ki (fun r282 S281 h1 => ?_))
  refine x_istore (L' := [(5, xm_i r282), (0, xm_w0 b), (1, xm_r x1), (2, xm_r x2), (3, xm_r x3), (4, xm_i x4)]) C dL_law_942 (by decide) rfl ?_
  refine x_aload_n C 3 dL_law_944 rfl rfl ?_
  refine x_aload_n_w C 1 dL_law_945 rfl rfl ?_
  refine x_iload C 5 dL_law_946 rfl ?_
  refine x_iconst (v := (1 : Int32)) C dL_law_948 (by decide) ?_
  refine x_iadd C dL_law_949 ?_
  obtain ⟨hi283, h1⟩ := h1
  refine x_sald C hSc hi283 dL_law_950 ?_
  refine x_aload_n_w C 1 dL_law_951 rfl rfl ?_
  refine x_iload C 5 dL_law_952 rfl ?_
  refine x_iconst (v := (nI 2)) C dL_law_954 (by decide) ?_
  refine x_iadd C dL_law_955 ?_
  obtain ⟨hi284, h1⟩ := h1
  refine x_sald C hSc hi284 dL_law_956 ?_
  refine x_aload_n_w C 1 dL_law_957 rfl rfl ?_
  refine x_iload C 5 dL_law_958 rfl ?_
  refine x_iconst (v := (nI 3)) C dL_law_960 (by decide) ?_
  refine x_iadd C dL_law_961 ?_
  obtain ⟨hi285, h1⟩ := h1
  refine x_sald C hSc hi285 dL_law_962 ?_
  obtain ⟨n286, hr287, h1⟩ := h1
  obtain ⟨ht288, h1⟩ := h1
  obtain ⟨hc289, hc290, h1⟩ := h1
  refine x_callV (rm' := rm_X12_compare) (n := n286) C (kp_X12_compare_met h1) lk_182 gw_1006 gw_1007 xv_12 rfl hr287 ht288 rfl (Nat.le_of_ble_eq_true rfl) ⟨Nat.le_of_ble_eq_true rfl, Nat.le_of_ble_eq_true rfl, hc289, hc290⟩ dL_law_963 xm_kx (xm_ki (fun r292 S291 h1 => ?_))
  refine x_istore (L' := [(6, xm_i r292), (5, xm_i r282), (0, xm_w0 b), (1, xm_r x1), (2, xm_r x2), (3, xm_r x3), (4, xm_i x4)]) C dL_law_966 (by decide) rfl ?_
  refine x_aload_n C 4 dL_law_968 rfl rfl ?_
  obtain ⟨n293, hr294, h1⟩ := h1
  obtain ⟨ht295, h1⟩ := h1
  obtain ⟨hc296, hc297, h1⟩ := h1
  refine x_callV (rm' := rm_X12_thrown) (n := n293) C (kp_X12_thrown_met h1) lk_171 gw_941 gw_942 xv_12 rfl hr294 ht295 rfl (Nat.le_of_ble_eq_true rfl) ⟨Nat.le_of_ble_eq_true rfl, Nat.le_of_ble_eq_true rfl, hc296, hc297⟩ dL_law_969 xm_kx (xm_ki (fun r299 S298 h1 => ?_))
  refine x_iload C 1 dL_law_972 rfl ?_
  refine x_icmp_eq (tgt := 979) C dL_law_974 (by decide) (fun z9 => ?_) (fun z9 => ?_)
  · have h1 := h1.1 z9
    refine x_iload C 1 dL_law_979 rfl ?_
    refine x_if_ne (tgt := 996) C dL_law_981 (by decide) (fun z9 => ?_) (fun z9 => ?_)
    · have h1 := h1.1 z9
      refine x_keep (L' := [(0, xm_w0 b), (1, xm_r x1), (2, xm_r x2), (3, xm_r x3), (4, xm_i x4)]) C [2, 3, 4, 5, 6] rfl ?_
      exact kp_L_law_996 b len xs x1 x2 x3 x4 S298 (kc + 4) (ks + 24) C N hSc hg hZ23 h1
    · have h1 := h1.2 z9
      refine x_aload_n C 5 dL_law_984 rfl rfl ?_
      refine x_iconst (v := (0 : Int32)) C dL_law_985 (by decide) ?_
      obtain ⟨n300, hr301, h1⟩ := h1
      obtain ⟨z303, ht302, h1⟩ := h1
      obtain ⟨hi304, h1⟩ := h1
      refine x_lald (n := n300) C hr301 ht302 hi304 dL_law_986 ?_
      refine x_iload C 0 dL_law_987 rfl ?_
      refine x_i2l C dL_law_989 ?_
      refine x_lcmp C dL_law_990 ?_
      refine x_if_eq (tgt := 996) C dL_law_991 (by decide) (fun z9 => ?_) (fun z9 => ?_)
      · have h1 := h1.1 z9
        refine x_keep (L' := [(0, xm_w0 b), (1, xm_r x1), (2, xm_r x2), (3, xm_r x3), (4, xm_i x4)]) C [2, 3, 4, 5, 6] rfl ?_
        exact kp_L_law_996 b len xs x1 x2 x3 x4 S298 (kc + 4) (ks + 24) C N hSc hg hZ23 h1
      · have h1 := h1.2 z9
        refine x_iconst (v := (0 : Int32)) C dL_law_994 (by decide) ?_
        obtain ⟨hc305, hc306, h1⟩ := h1
        exact x_zret C hc305 hc306 rfl (by decide) dL_law_995 (hg _ _ h1)
  · have h1 := h1.2 z9
    refine x_iconst (v := (0 : Int32)) C dL_law_977 (by decide) ?_
    obtain ⟨hc307, hc308, h1⟩ := h1
    exact x_zret C hc307 hc308 rfl (by decide) dL_law_978 (hg _ _ h1)
def wp_L_law_1052 (b len : Nat) (xs : Nat → Int32) (x1 : Option Nat) (x2 : Option Nat) (x3 : Option Nat) (x4 : Int32) (S : xm_S) (kc ks : Nat) (g : Int32 → xm_S → Prop) (Z23 : Option Nat → Option Nat → Option Nat → Int32 → xm_S → Nat → Nat → Prop) : Prop :=
  wp_L_law_2965 b len xs x1 x2 x3 x4 S kc ks g Z23
set_option maxRecDepth 100000 in
set_option maxHeartbeats 4000000 in
theorem kp_L_law_1052 {K : xm_K} (b len : Nat) (xs : Nat → Int32) (x1 : Option Nat) (x2 : Option Nat) (x3 : Option Nat) (x4 : Int32) (S : xm_S) (kc ks : Nat) {g : Int32 → xm_S → Prop} {Z23 : Option Nat → Option Nat → Option Nat → Int32 → xm_S → Nat → Nat → Prop} (C : xm_Cx K cL_law RL 7 (some .boolean) rm_L_law) (N : xm_Nx K) (hSc : xm_Sc K b len xs) (hg : ∀ v S, g v S → xm_q K (some (xm_i v)) S) (hZ23 : ∀ x1 x2 x3 x4 S kc ks, Z23 x1 x2 x3 x4 S kc ks → xm_W K kc ks 23 [(0, xm_w0 b), (1, xm_r x1), (2, xm_r x2), (3, xm_r x3), (4, xm_i x4)] [] S) (h1 : wp_L_law_1052 b len xs x1 x2 x3 x4 S kc ks g Z23) : xm_W K kc ks 1052 [(0, xm_w0 b), (1, xm_r x1), (2, xm_r x2), (3, xm_r x3), (4, xm_i x4)] [] S := by
  unfold wp_L_law_1052 at h1
  refine x_goto (tgt := 2965) C dL_law_1052 (by decide) ?_
  exact kp_L_law_2965 b len xs x1 x2 x3 x4 S kc ks C N hSc hg hZ23 h1
def wp_L_law_999 (b len : Nat) (xs : Nat → Int32) (x1 : Option Nat) (x2 : Option Nat) (x3 : Option Nat) (x4 : Int32) (S : xm_S) (kc ks : Nat) (g : Int32 → xm_S → Prop) (Z23 : Option Nat → Option Nat → Option Nat → Int32 → xm_S → Nat → Nat → Prop) : Prop :=
  vp_in (x4 + (1 : Int32)) len ∧ kc + 132 ≤ 601024 ∧ ks + 462 ≤ 7293034 ∧ wp_L_within x1 (xs ((x4 + (1 : Int32))).toNatClampNeg) x3 S (fun r313 S312 => vp_in (x4 + (1 : Int32)) len ∧ ∃ n315, x2 = some n315 ∧ st_t S312 n315 = some (12, 0) ∧ (kc + 132) ≤ 601024 ∧ (ks + 462) ≤ 7293034 ∧ wp_X12_within n315 (xs ((x4 + (1 : Int32))).toNatClampNeg) S312 (fun r321 S320 => ∃ n322, x2 = some n322 ∧ st_t S320 n322 = some (12, 0) ∧ (kc + 132) ≤ 601024 ∧ (ks + 462) ≤ 7293034 ∧ wp_X12_thrown n322 S320 (fun r328 S327 => (r328 = r313 → (¬ r313 = 0 → wp_L_law_1052 b len xs x1 x2 x3 x4 S327 (kc + 132) (ks + 462) g Z23) ∧ (r313 = 0 → ∃ n329, x3 = some n329 ∧ ∃ z332, st_t S327 n329 = some (103, z332) ∧ vp_in (0 : Int32) z332 ∧ ((lg_cmp (st_l S327 n329 ((0 : Int32)).toNatClampNeg) ((r321).toInt64)) = 0 → wp_L_law_1052 b len xs x1 x2 x3 x4 S327 (kc + 132) (ks + 462) g Z23) ∧ (¬ (lg_cmp (st_l S327 n329 ((0 : Int32)).toNatClampNeg) ((r321).toInt64)) = 0 → (kc + 132) ≤ 601024 ∧ (ks + 462) ≤ 7293034 ∧ g (0 : Int32) S327))) ∧ (¬ r328 = r313 → (kc + 132) ≤ 601024 ∧ (ks + 462) ≤ 7293034 ∧ g (0 : Int32) S327))))
set_option maxRecDepth 100000 in
set_option maxHeartbeats 4000000 in
theorem kp_L_law_999 {K : xm_K} (b len : Nat) (xs : Nat → Int32) (x1 : Option Nat) (x2 : Option Nat) (x3 : Option Nat) (x4 : Int32) (S : xm_S) (kc ks : Nat) {g : Int32 → xm_S → Prop} {Z23 : Option Nat → Option Nat → Option Nat → Int32 → xm_S → Nat → Nat → Prop} (C : xm_Cx K cL_law RL 7 (some .boolean) rm_L_law) (N : xm_Nx K) (hSc : xm_Sc K b len xs) (hg : ∀ v S, g v S → xm_q K (some (xm_i v)) S) (hZ23 : ∀ x1 x2 x3 x4 S kc ks, Z23 x1 x2 x3 x4 S kc ks → xm_W K kc ks 23 [(0, xm_w0 b), (1, xm_r x1), (2, xm_r x2), (3, xm_r x3), (4, xm_i x4)] [] S) (h1 : wp_L_law_999 b len xs x1 x2 x3 x4 S kc ks g Z23) : xm_W K kc ks 999 [(0, xm_w0 b), (1, xm_r x1), (2, xm_r x2), (3, xm_r x3), (4, xm_i x4)] [] S := by
  unfold wp_L_law_999 at h1
  refine x_aload_n C 1 dL_law_999 rfl rfl ?_
  refine x_aload_n_w C 0 dL_law_1000 rfl rfl ?_
  refine x_iload C 4 dL_law_1001 rfl ?_
  refine x_iconst (v := (1 : Int32)) C dL_law_1003 (by decide) ?_
  refine x_iadd C dL_law_1004 ?_
  obtain ⟨hi309, h1⟩ := h1
  refine x_sald C hSc hi309 dL_law_1005 ?_
  refine x_aload_n C 3 dL_law_1006 rfl rfl ?_
  obtain ⟨hc310, hc311, h1⟩ := h1
  refine x_callSH (rm' := rm_L_within) (hh := [(0, 9, 12, 21), (0, 9, 15, 13)]) C (kp_L_within_met h1) gw_1008 gw_932 gw_1009 ⟨by decide, by decide, show Option.map _ (parseMethodDescriptor yL_within.desc) = some 3 from by decide +kernel⟩ gw_1010 rfl (Nat.le_of_ble_eq_true rfl) ⟨Nat.le_of_ble_eq_true rfl, Nat.le_of_ble_eq_true rfl, hc310, hc311⟩ dL_law_1007 xm_kx (xm_ki (fun r313 S312 h1 => ?_))
  refine x_istore (L' := [(5, xm_i r313), (0, xm_w0 b), (1, xm_r x1), (2, xm_r x2), (3, xm_r x3), (4, xm_i x4)]) C dL_law_1010 (by decide) rfl ?_
  refine x_aload_n C 3 dL_law_1012 rfl rfl ?_
  refine x_aload_n_w C 1 dL_law_1013 rfl rfl ?_
  refine x_iload C 5 dL_law_1014 rfl ?_
  refine x_iconst (v := (1 : Int32)) C dL_law_1016 (by decide) ?_
  refine x_iadd C dL_law_1017 ?_
  obtain ⟨hi314, h1⟩ := h1
  refine x_sald C hSc hi314 dL_law_1018 ?_
  obtain ⟨n315, hr316, h1⟩ := h1
  obtain ⟨ht317, h1⟩ := h1
  obtain ⟨hc318, hc319, h1⟩ := h1
  refine x_callV (rm' := rm_X12_within) (n := n315) C (kp_X12_within_met h1) lk_183 gw_1013 gw_1014 xv_12 rfl hr316 ht317 rfl (Nat.le_of_ble_eq_true rfl) ⟨Nat.le_of_ble_eq_true rfl, Nat.le_of_ble_eq_true rfl, hc318, hc319⟩ dL_law_1019 xm_kx (xm_ki (fun r321 S320 h1 => ?_))
  refine x_istore (L' := [(6, xm_i r321), (5, xm_i r313), (0, xm_w0 b), (1, xm_r x1), (2, xm_r x2), (3, xm_r x3), (4, xm_i x4)]) C dL_law_1022 (by decide) rfl ?_
  refine x_aload_n C 4 dL_law_1024 rfl rfl ?_
  obtain ⟨n322, hr323, h1⟩ := h1
  obtain ⟨ht324, h1⟩ := h1
  obtain ⟨hc325, hc326, h1⟩ := h1
  refine x_callV (rm' := rm_X12_thrown) (n := n322) C (kp_X12_thrown_met h1) lk_171 gw_941 gw_942 xv_12 rfl hr323 ht324 rfl (Nat.le_of_ble_eq_true rfl) ⟨Nat.le_of_ble_eq_true rfl, Nat.le_of_ble_eq_true rfl, hc325, hc326⟩ dL_law_1025 xm_kx (xm_ki (fun r328 S327 h1 => ?_))
  refine x_iload C 1 dL_law_1028 rfl ?_
  refine x_icmp_eq (tgt := 1035) C dL_law_1030 (by decide) (fun z9 => ?_) (fun z9 => ?_)
  · have h1 := h1.1 z9
    refine x_iload C 1 dL_law_1035 rfl ?_
    refine x_if_ne (tgt := 1052) C dL_law_1037 (by decide) (fun z9 => ?_) (fun z9 => ?_)
    · have h1 := h1.1 z9
      refine x_keep (L' := [(0, xm_w0 b), (1, xm_r x1), (2, xm_r x2), (3, xm_r x3), (4, xm_i x4)]) C [2, 3, 4, 5, 6] rfl ?_
      exact kp_L_law_1052 b len xs x1 x2 x3 x4 S327 (kc + 132) (ks + 462) C N hSc hg hZ23 h1
    · have h1 := h1.2 z9
      refine x_aload_n C 5 dL_law_1040 rfl rfl ?_
      refine x_iconst (v := (0 : Int32)) C dL_law_1041 (by decide) ?_
      obtain ⟨n329, hr330, h1⟩ := h1
      obtain ⟨z332, ht331, h1⟩ := h1
      obtain ⟨hi333, h1⟩ := h1
      refine x_lald (n := n329) C hr330 ht331 hi333 dL_law_1042 ?_
      refine x_iload C 0 dL_law_1043 rfl ?_
      refine x_i2l C dL_law_1045 ?_
      refine x_lcmp C dL_law_1046 ?_
      refine x_if_eq (tgt := 1052) C dL_law_1047 (by decide) (fun z9 => ?_) (fun z9 => ?_)
      · have h1 := h1.1 z9
        refine x_keep (L' := [(0, xm_w0 b), (1, xm_r x1), (2, xm_r x2), (3, xm_r x3), (4, xm_i x4)]) C [2, 3, 4, 5, 6] rfl ?_
        exact kp_L_law_1052 b len xs x1 x2 x3 x4 S327 (kc + 132) (ks + 462) C N hSc hg hZ23 h1
      · have h1 := h1.2 z9
        refine x_iconst (v := (0 : Int32)) C dL_law_1050 (by decide) ?_
        obtain ⟨hc334, hc335, h1⟩ := h1
        exact x_zret C hc334 hc335 rfl (by decide) dL_law_1051 (hg _ _ h1)
  · have h1 := h1.2 z9
    refine x_iconst (v := (0 : Int32)) C dL_law_1033 (by decide) ?_
    obtain ⟨hc336, hc337, h1⟩ := h1
    exact x_zret C hc336 hc337 rfl (by decide) dL_law_1034 (hg _ _ h1)
def wp_L_law_1120 (b len : Nat) (xs : Nat → Int32) (x1 : Option Nat) (x2 : Option Nat) (x3 : Option Nat) (x4 : Int32) (S : xm_S) (kc ks : Nat) (g : Int32 → xm_S → Prop) (Z23 : Option Nat → Option Nat → Option Nat → Int32 → xm_S → Nat → Nat → Prop) : Prop :=
  wp_L_law_2965 b len xs x1 x2 x3 x4 S kc ks g Z23
set_option maxRecDepth 100000 in
set_option maxHeartbeats 4000000 in
theorem kp_L_law_1120 {K : xm_K} (b len : Nat) (xs : Nat → Int32) (x1 : Option Nat) (x2 : Option Nat) (x3 : Option Nat) (x4 : Int32) (S : xm_S) (kc ks : Nat) {g : Int32 → xm_S → Prop} {Z23 : Option Nat → Option Nat → Option Nat → Int32 → xm_S → Nat → Nat → Prop} (C : xm_Cx K cL_law RL 7 (some .boolean) rm_L_law) (N : xm_Nx K) (hSc : xm_Sc K b len xs) (hg : ∀ v S, g v S → xm_q K (some (xm_i v)) S) (hZ23 : ∀ x1 x2 x3 x4 S kc ks, Z23 x1 x2 x3 x4 S kc ks → xm_W K kc ks 23 [(0, xm_w0 b), (1, xm_r x1), (2, xm_r x2), (3, xm_r x3), (4, xm_i x4)] [] S) (h1 : wp_L_law_1120 b len xs x1 x2 x3 x4 S kc ks g Z23) : xm_W K kc ks 1120 [(0, xm_w0 b), (1, xm_r x1), (2, xm_r x2), (3, xm_r x3), (4, xm_i x4)] [] S := by
  unfold wp_L_law_1120 at h1
  refine x_goto (tgt := 2965) C dL_law_1120 (by decide) ?_
  exact kp_L_law_2965 b len xs x1 x2 x3 x4 S kc ks C N hSc hg hZ23 h1
def wp_L_law_1055 (b len : Nat) (xs : Nat → Int32) (x1 : Option Nat) (x2 : Option Nat) (x3 : Option Nat) (x4 : Int32) (S : xm_S) (kc ks : Nat) (g : Int32 → xm_S → Prop) (Z23 : Option Nat → Option Nat → Option Nat → Int32 → xm_S → Nat → Nat → Prop) : Prop :=
  vp_in (x4 + (1 : Int32)) len ∧ vp_in (x4 + (nI 2)) len ∧ kc + 135 ≤ 601024 ∧ ks + 480 ≤ 7293034 ∧ wp_L_wish x1 (xs ((x4 + (1 : Int32))).toNatClampNeg) (xs ((x4 + (nI 2))).toNatClampNeg) x3 S (fun r343 S342 => vp_in (x4 + (1 : Int32)) len ∧ vp_in (x4 + (nI 2)) len ∧ ∃ n346, x2 = some n346 ∧ st_t S342 n346 = some (12, 0) ∧ (kc + 135) ≤ 601024 ∧ (ks + 480) ≤ 7293034 ∧ wp_X12_wish n346 (xs ((x4 + (1 : Int32))).toNatClampNeg) (xs ((x4 + (nI 2))).toNatClampNeg) S342 (fun r352 S351 => ∃ n353, x2 = some n353 ∧ st_t S351 n353 = some (12, 0) ∧ (kc + 135) ≤ 601024 ∧ (ks + 480) ≤ 7293034 ∧ wp_X12_thrown n353 S351 (fun r359 S358 => (r359 = r343 → (¬ r343 = 0 → wp_L_law_1120 b len xs x1 x2 x3 x4 S358 (kc + 135) (ks + 480) g Z23) ∧ (r343 = 0 → ∃ n360, x3 = some n360 ∧ ∃ z363, st_t S358 n360 = some (103, z363) ∧ vp_in (0 : Int32) z363 ∧ ((lg_cmp (st_l S358 n360 ((0 : Int32)).toNatClampNeg) ((r352).toInt64)) = 0 → wp_L_law_1120 b len xs x1 x2 x3 x4 S358 (kc + 135) (ks + 480) g Z23) ∧ (¬ (lg_cmp (st_l S358 n360 ((0 : Int32)).toNatClampNeg) ((r352).toInt64)) = 0 → (kc + 135) ≤ 601024 ∧ (ks + 480) ≤ 7293034 ∧ g (0 : Int32) S358))) ∧ (¬ r359 = r343 → (kc + 135) ≤ 601024 ∧ (ks + 480) ≤ 7293034 ∧ g (0 : Int32) S358))))
set_option maxRecDepth 100000 in
set_option maxHeartbeats 4000000 in
theorem kp_L_law_1055 {K : xm_K} (b len : Nat) (xs : Nat → Int32) (x1 : Option Nat) (x2 : Option Nat) (x3 : Option Nat) (x4 : Int32) (S : xm_S) (kc ks : Nat) {g : Int32 → xm_S → Prop} {Z23 : Option Nat → Option Nat → Option Nat → Int32 → xm_S → Nat → Nat → Prop} (C : xm_Cx K cL_law RL 7 (some .boolean) rm_L_law) (N : xm_Nx K) (hSc : xm_Sc K b len xs) (hg : ∀ v S, g v S → xm_q K (some (xm_i v)) S) (hZ23 : ∀ x1 x2 x3 x4 S kc ks, Z23 x1 x2 x3 x4 S kc ks → xm_W K kc ks 23 [(0, xm_w0 b), (1, xm_r x1), (2, xm_r x2), (3, xm_r x3), (4, xm_i x4)] [] S) (h1 : wp_L_law_1055 b len xs x1 x2 x3 x4 S kc ks g Z23) : xm_W K kc ks 1055 [(0, xm_w0 b), (1, xm_r x1), (2, xm_r x2), (3, xm_r x3), (4, xm_i x4)] [] S := by
  unfold wp_L_law_1055 at h1
  refine x_aload_n C 1 dL_law_1055 rfl rfl ?_
  refine x_aload_n_w C 0 dL_law_1056 rfl rfl ?_
  refine x_iload C 4 dL_law_1057 rfl ?_
  refine x_iconst (v := (1 : Int32)) C dL_law_1059 (by decide) ?_
  refine x_iadd C dL_law_1060 ?_
  obtain ⟨hi338, h1⟩ := h1
  refine x_sald C hSc hi338 dL_law_1061 ?_
  refine x_aload_n_w C 0 dL_law_1062 rfl rfl ?_
  refine x_iload C 4 dL_law_1063 rfl ?_
  refine x_iconst (v := (nI 2)) C dL_law_1065 (by decide) ?_
  refine x_iadd C dL_law_1066 ?_
  obtain ⟨hi339, h1⟩ := h1
  refine x_sald C hSc hi339 dL_law_1067 ?_
  refine x_aload_n C 3 dL_law_1068 rfl rfl ?_
  obtain ⟨hc340, hc341, h1⟩ := h1
  refine x_callSH (rm' := rm_L_wish) (hh := [(0, 10, 13, 21), (0, 10, 17, 13), (0, 10, 21, 15)]) C (kp_L_wish_met h1) gw_1015 gw_932 gw_1016 ⟨by decide, by decide, show Option.map _ (parseMethodDescriptor yL_wish.desc) = some 4 from by decide +kernel⟩ gw_1017 rfl (Nat.le_of_ble_eq_true rfl) ⟨Nat.le_of_ble_eq_true rfl, Nat.le_of_ble_eq_true rfl, hc340, hc341⟩ dL_law_1069 xm_kx (xm_ki (fun r343 S342 h1 => ?_))
  refine x_istore (L' := [(5, xm_i r343), (0, xm_w0 b), (1, xm_r x1), (2, xm_r x2), (3, xm_r x3), (4, xm_i x4)]) C dL_law_1072 (by decide) rfl ?_
  refine x_aload_n C 3 dL_law_1074 rfl rfl ?_
  refine x_aload_n_w C 1 dL_law_1075 rfl rfl ?_
  refine x_iload C 5 dL_law_1076 rfl ?_
  refine x_iconst (v := (1 : Int32)) C dL_law_1078 (by decide) ?_
  refine x_iadd C dL_law_1079 ?_
  obtain ⟨hi344, h1⟩ := h1
  refine x_sald C hSc hi344 dL_law_1080 ?_
  refine x_aload_n_w C 1 dL_law_1081 rfl rfl ?_
  refine x_iload C 5 dL_law_1082 rfl ?_
  refine x_iconst (v := (nI 2)) C dL_law_1084 (by decide) ?_
  refine x_iadd C dL_law_1085 ?_
  obtain ⟨hi345, h1⟩ := h1
  refine x_sald C hSc hi345 dL_law_1086 ?_
  obtain ⟨n346, hr347, h1⟩ := h1
  obtain ⟨ht348, h1⟩ := h1
  obtain ⟨hc349, hc350, h1⟩ := h1
  refine x_callV (rm' := rm_X12_wish) (n := n346) C (kp_X12_wish_met h1) lk_184 gw_1020 gw_1021 xv_12 rfl hr347 ht348 rfl (Nat.le_of_ble_eq_true rfl) ⟨Nat.le_of_ble_eq_true rfl, Nat.le_of_ble_eq_true rfl, hc349, hc350⟩ dL_law_1087 xm_kx (xm_ki (fun r352 S351 h1 => ?_))
  refine x_istore (L' := [(6, xm_i r352), (5, xm_i r343), (0, xm_w0 b), (1, xm_r x1), (2, xm_r x2), (3, xm_r x3), (4, xm_i x4)]) C dL_law_1090 (by decide) rfl ?_
  refine x_aload_n C 4 dL_law_1092 rfl rfl ?_
  obtain ⟨n353, hr354, h1⟩ := h1
  obtain ⟨ht355, h1⟩ := h1
  obtain ⟨hc356, hc357, h1⟩ := h1
  refine x_callV (rm' := rm_X12_thrown) (n := n353) C (kp_X12_thrown_met h1) lk_171 gw_941 gw_942 xv_12 rfl hr354 ht355 rfl (Nat.le_of_ble_eq_true rfl) ⟨Nat.le_of_ble_eq_true rfl, Nat.le_of_ble_eq_true rfl, hc356, hc357⟩ dL_law_1093 xm_kx (xm_ki (fun r359 S358 h1 => ?_))
  refine x_iload C 1 dL_law_1096 rfl ?_
  refine x_icmp_eq (tgt := 1103) C dL_law_1098 (by decide) (fun z9 => ?_) (fun z9 => ?_)
  · have h1 := h1.1 z9
    refine x_iload C 1 dL_law_1103 rfl ?_
    refine x_if_ne (tgt := 1120) C dL_law_1105 (by decide) (fun z9 => ?_) (fun z9 => ?_)
    · have h1 := h1.1 z9
      refine x_keep (L' := [(0, xm_w0 b), (1, xm_r x1), (2, xm_r x2), (3, xm_r x3), (4, xm_i x4)]) C [2, 3, 4, 5, 6] rfl ?_
      exact kp_L_law_1120 b len xs x1 x2 x3 x4 S358 (kc + 135) (ks + 480) C N hSc hg hZ23 h1
    · have h1 := h1.2 z9
      refine x_aload_n C 5 dL_law_1108 rfl rfl ?_
      refine x_iconst (v := (0 : Int32)) C dL_law_1109 (by decide) ?_
      obtain ⟨n360, hr361, h1⟩ := h1
      obtain ⟨z363, ht362, h1⟩ := h1
      obtain ⟨hi364, h1⟩ := h1
      refine x_lald (n := n360) C hr361 ht362 hi364 dL_law_1110 ?_
      refine x_iload C 0 dL_law_1111 rfl ?_
      refine x_i2l C dL_law_1113 ?_
      refine x_lcmp C dL_law_1114 ?_
      refine x_if_eq (tgt := 1120) C dL_law_1115 (by decide) (fun z9 => ?_) (fun z9 => ?_)
      · have h1 := h1.1 z9
        refine x_keep (L' := [(0, xm_w0 b), (1, xm_r x1), (2, xm_r x2), (3, xm_r x3), (4, xm_i x4)]) C [2, 3, 4, 5, 6] rfl ?_
        exact kp_L_law_1120 b len xs x1 x2 x3 x4 S358 (kc + 135) (ks + 480) C N hSc hg hZ23 h1
      · have h1 := h1.2 z9
        refine x_iconst (v := (0 : Int32)) C dL_law_1118 (by decide) ?_
        obtain ⟨hc365, hc366, h1⟩ := h1
        exact x_zret C hc365 hc366 rfl (by decide) dL_law_1119 (hg _ _ h1)
  · have h1 := h1.2 z9
    refine x_iconst (v := (0 : Int32)) C dL_law_1101 (by decide) ?_
    obtain ⟨hc367, hc368, h1⟩ := h1
    exact x_zret C hc367 hc368 rfl (by decide) dL_law_1102 (hg _ _ h1)
def wp_L_law_1123 (b len : Nat) (xs : Nat → Int32) (x1 : Option Nat) (x2 : Option Nat) (x3 : Option Nat) (x4 : Int32) (S : xm_S) (kc ks : Nat) (g : Int32 → xm_S → Prop) (Z23 : Option Nat → Option Nat → Option Nat → Int32 → xm_S → Nat → Nat → Prop) : Prop :=
  ∃ n369, x1 = some n369 ∧ st_t S n369 = some (11, 0) ∧ kc ≤ 601024 ∧ ks ≤ 7293034 ∧ wp_X11_unwish n369 S (fun r375 S374 => ∃ n376, x2 = some n376 ∧ st_t S374 n376 = some (12, 0) ∧ kc ≤ 601024 ∧ ks ≤ 7293034 ∧ wp_X12_unwish n376 S374 (fun r382 S381 => (r375 = r382 → wp_L_law_2965 b len xs x1 x2 x3 x4 S381 kc ks g Z23) ∧ (¬ r375 = r382 → kc ≤ 601024 ∧ ks ≤ 7293034 ∧ g (0 : Int32) S381)))
set_option maxRecDepth 100000 in
set_option maxHeartbeats 4000000 in
theorem kp_L_law_1123 {K : xm_K} (b len : Nat) (xs : Nat → Int32) (x1 : Option Nat) (x2 : Option Nat) (x3 : Option Nat) (x4 : Int32) (S : xm_S) (kc ks : Nat) {g : Int32 → xm_S → Prop} {Z23 : Option Nat → Option Nat → Option Nat → Int32 → xm_S → Nat → Nat → Prop} (C : xm_Cx K cL_law RL 7 (some .boolean) rm_L_law) (N : xm_Nx K) (hSc : xm_Sc K b len xs) (hg : ∀ v S, g v S → xm_q K (some (xm_i v)) S) (hZ23 : ∀ x1 x2 x3 x4 S kc ks, Z23 x1 x2 x3 x4 S kc ks → xm_W K kc ks 23 [(0, xm_w0 b), (1, xm_r x1), (2, xm_r x2), (3, xm_r x3), (4, xm_i x4)] [] S) (h1 : wp_L_law_1123 b len xs x1 x2 x3 x4 S kc ks g Z23) : xm_W K kc ks 1123 [(0, xm_w0 b), (1, xm_r x1), (2, xm_r x2), (3, xm_r x3), (4, xm_i x4)] [] S := by
  unfold wp_L_law_1123 at h1
  refine x_aload_n C 1 dL_law_1123 rfl rfl ?_
  obtain ⟨n369, hr370, h1⟩ := h1
  obtain ⟨ht371, h1⟩ := h1
  obtain ⟨hc372, hc373, h1⟩ := h1
  refine x_callV (rm' := rm_X11_unwish) (n := n369) C (kp_X11_unwish_met h1) lk_185 gw_1024 gw_1025 xv_11 rfl hr370 ht371 rfl (Nat.le_of_ble_eq_true rfl) ⟨Nat.le_of_ble_eq_true rfl, Nat.le_of_ble_eq_true rfl, hc372, hc373⟩ dL_law_1124 xm_kx (xm_ki (fun r375 S374 h1 => ?_))
  refine x_aload_n C 2 dL_law_1127 rfl rfl ?_
  obtain ⟨n376, hr377, h1⟩ := h1
  obtain ⟨ht378, h1⟩ := h1
  obtain ⟨hc379, hc380, h1⟩ := h1
  refine x_callV (rm' := rm_X12_unwish) (n := n376) C (kp_X12_unwish_met h1) lk_186 gw_1028 gw_1029 xv_12 rfl hr377 ht378 rfl (Nat.le_of_ble_eq_true rfl) ⟨Nat.le_of_ble_eq_true rfl, Nat.le_of_ble_eq_true rfl, hc379, hc380⟩ dL_law_1128 xm_kx (xm_ki (fun r382 S381 h1 => ?_))
  refine x_icmp_eq (tgt := 2965) C dL_law_1131 (by decide) (fun z9 => ?_) (fun z9 => ?_)
  · have h1 := h1.1 z9
    exact kp_L_law_2965 b len xs x1 x2 x3 x4 S381 kc ks C N hSc hg hZ23 h1
  · have h1 := h1.2 z9
    refine x_iconst (v := (0 : Int32)) C dL_law_1134 (by decide) ?_
    obtain ⟨hc383, hc384, h1⟩ := h1
    exact x_zret C hc383 hc384 rfl (by decide) dL_law_1135 (hg _ _ h1)
def wp_L_law_1189 (b len : Nat) (xs : Nat → Int32) (x1 : Option Nat) (x2 : Option Nat) (x3 : Option Nat) (x4 : Int32) (S : xm_S) (kc ks : Nat) (g : Int32 → xm_S → Prop) (Z23 : Option Nat → Option Nat → Option Nat → Int32 → xm_S → Nat → Nat → Prop) : Prop :=
  wp_L_law_2965 b len xs x1 x2 x3 x4 S kc ks g Z23
set_option maxRecDepth 100000 in
set_option maxHeartbeats 4000000 in
theorem kp_L_law_1189 {K : xm_K} (b len : Nat) (xs : Nat → Int32) (x1 : Option Nat) (x2 : Option Nat) (x3 : Option Nat) (x4 : Int32) (S : xm_S) (kc ks : Nat) {g : Int32 → xm_S → Prop} {Z23 : Option Nat → Option Nat → Option Nat → Int32 → xm_S → Nat → Nat → Prop} (C : xm_Cx K cL_law RL 7 (some .boolean) rm_L_law) (N : xm_Nx K) (hSc : xm_Sc K b len xs) (hg : ∀ v S, g v S → xm_q K (some (xm_i v)) S) (hZ23 : ∀ x1 x2 x3 x4 S kc ks, Z23 x1 x2 x3 x4 S kc ks → xm_W K kc ks 23 [(0, xm_w0 b), (1, xm_r x1), (2, xm_r x2), (3, xm_r x3), (4, xm_i x4)] [] S) (h1 : wp_L_law_1189 b len xs x1 x2 x3 x4 S kc ks g Z23) : xm_W K kc ks 1189 [(0, xm_w0 b), (1, xm_r x1), (2, xm_r x2), (3, xm_r x3), (4, xm_i x4)] [] S := by
  unfold wp_L_law_1189 at h1
  refine x_goto (tgt := 2965) C dL_law_1189 (by decide) ?_
  exact kp_L_law_2965 b len xs x1 x2 x3 x4 S kc ks C N hSc hg hZ23 h1
def wp_L_law_1136 (b len : Nat) (xs : Nat → Int32) (x1 : Option Nat) (x2 : Option Nat) (x3 : Option Nat) (x4 : Int32) (S : xm_S) (kc ks : Nat) (g : Int32 → xm_S → Prop) (Z23 : Option Nat → Option Nat → Option Nat → Int32 → xm_S → Nat → Nat → Prop) : Prop :=
  vp_in (x4 + (1 : Int32)) len ∧ kc + 1 ≤ 601024 ∧ ks + 6 ≤ 7293034 ∧ wp_L_policy x1 (xs ((x4 + (1 : Int32))).toNatClampNeg) x3 S (fun r389 S388 => vp_in (x4 + (1 : Int32)) len ∧ ∃ n391, x2 = some n391 ∧ st_t S388 n391 = some (12, 0) ∧ (kc + 1) ≤ 601024 ∧ (ks + 6) ≤ 7293034 ∧ wp_X12_policy n391 (xs ((x4 + (1 : Int32))).toNatClampNeg) S388 (fun r397 S396 => ∃ n398, x2 = some n398 ∧ st_t S396 n398 = some (12, 0) ∧ (kc + 1) ≤ 601024 ∧ (ks + 6) ≤ 7293034 ∧ wp_X12_thrown n398 S396 (fun r404 S403 => (r404 = r389 → (¬ r389 = 0 → wp_L_law_1189 b len xs x1 x2 x3 x4 S403 (kc + 1) (ks + 6) g Z23) ∧ (r389 = 0 → ∃ n405, x3 = some n405 ∧ ∃ z408, st_t S403 n405 = some (103, z408) ∧ vp_in (0 : Int32) z408 ∧ ((lg_cmp (st_l S403 n405 ((0 : Int32)).toNatClampNeg) ((r397).toInt64)) = 0 → wp_L_law_1189 b len xs x1 x2 x3 x4 S403 (kc + 1) (ks + 6) g Z23) ∧ (¬ (lg_cmp (st_l S403 n405 ((0 : Int32)).toNatClampNeg) ((r397).toInt64)) = 0 → (kc + 1) ≤ 601024 ∧ (ks + 6) ≤ 7293034 ∧ g (0 : Int32) S403))) ∧ (¬ r404 = r389 → (kc + 1) ≤ 601024 ∧ (ks + 6) ≤ 7293034 ∧ g (0 : Int32) S403))))
set_option maxRecDepth 100000 in
set_option maxHeartbeats 4000000 in
theorem kp_L_law_1136 {K : xm_K} (b len : Nat) (xs : Nat → Int32) (x1 : Option Nat) (x2 : Option Nat) (x3 : Option Nat) (x4 : Int32) (S : xm_S) (kc ks : Nat) {g : Int32 → xm_S → Prop} {Z23 : Option Nat → Option Nat → Option Nat → Int32 → xm_S → Nat → Nat → Prop} (C : xm_Cx K cL_law RL 7 (some .boolean) rm_L_law) (N : xm_Nx K) (hSc : xm_Sc K b len xs) (hg : ∀ v S, g v S → xm_q K (some (xm_i v)) S) (hZ23 : ∀ x1 x2 x3 x4 S kc ks, Z23 x1 x2 x3 x4 S kc ks → xm_W K kc ks 23 [(0, xm_w0 b), (1, xm_r x1), (2, xm_r x2), (3, xm_r x3), (4, xm_i x4)] [] S) (h1 : wp_L_law_1136 b len xs x1 x2 x3 x4 S kc ks g Z23) : xm_W K kc ks 1136 [(0, xm_w0 b), (1, xm_r x1), (2, xm_r x2), (3, xm_r x3), (4, xm_i x4)] [] S := by
  unfold wp_L_law_1136 at h1
  refine x_aload_n C 1 dL_law_1136 rfl rfl ?_
  refine x_aload_n_w C 0 dL_law_1137 rfl rfl ?_
  refine x_iload C 4 dL_law_1138 rfl ?_
  refine x_iconst (v := (1 : Int32)) C dL_law_1140 (by decide) ?_
  refine x_iadd C dL_law_1141 ?_
  obtain ⟨hi385, h1⟩ := h1
  refine x_sald C hSc hi385 dL_law_1142 ?_
  refine x_aload_n C 3 dL_law_1143 rfl rfl ?_
  obtain ⟨hc386, hc387, h1⟩ := h1
  refine x_callSH (rm' := rm_L_policy) (hh := [(0, 9, 12, 13)]) C (kp_L_policy_met h1) gw_1030 gw_932 gw_1031 ⟨by decide, by decide, show Option.map _ (parseMethodDescriptor yL_policy.desc) = some 3 from by decide +kernel⟩ gw_1032 rfl (Nat.le_of_ble_eq_true rfl) ⟨Nat.le_of_ble_eq_true rfl, Nat.le_of_ble_eq_true rfl, hc386, hc387⟩ dL_law_1144 xm_kx (xm_ki (fun r389 S388 h1 => ?_))
  refine x_istore (L' := [(5, xm_i r389), (0, xm_w0 b), (1, xm_r x1), (2, xm_r x2), (3, xm_r x3), (4, xm_i x4)]) C dL_law_1147 (by decide) rfl ?_
  refine x_aload_n C 3 dL_law_1149 rfl rfl ?_
  refine x_aload_n_w C 1 dL_law_1150 rfl rfl ?_
  refine x_iload C 5 dL_law_1151 rfl ?_
  refine x_iconst (v := (1 : Int32)) C dL_law_1153 (by decide) ?_
  refine x_iadd C dL_law_1154 ?_
  obtain ⟨hi390, h1⟩ := h1
  refine x_sald C hSc hi390 dL_law_1155 ?_
  obtain ⟨n391, hr392, h1⟩ := h1
  obtain ⟨ht393, h1⟩ := h1
  obtain ⟨hc394, hc395, h1⟩ := h1
  refine x_callV (rm' := rm_X12_policy) (n := n391) C (kp_X12_policy_met h1) lk_187 gw_1035 gw_1036 xv_12 rfl hr392 ht393 rfl (Nat.le_of_ble_eq_true rfl) ⟨Nat.le_of_ble_eq_true rfl, Nat.le_of_ble_eq_true rfl, hc394, hc395⟩ dL_law_1156 xm_kx (xm_ki (fun r397 S396 h1 => ?_))
  refine x_istore (L' := [(6, xm_i r397), (5, xm_i r389), (0, xm_w0 b), (1, xm_r x1), (2, xm_r x2), (3, xm_r x3), (4, xm_i x4)]) C dL_law_1159 (by decide) rfl ?_
  refine x_aload_n C 4 dL_law_1161 rfl rfl ?_
  obtain ⟨n398, hr399, h1⟩ := h1
  obtain ⟨ht400, h1⟩ := h1
  obtain ⟨hc401, hc402, h1⟩ := h1
  refine x_callV (rm' := rm_X12_thrown) (n := n398) C (kp_X12_thrown_met h1) lk_171 gw_941 gw_942 xv_12 rfl hr399 ht400 rfl (Nat.le_of_ble_eq_true rfl) ⟨Nat.le_of_ble_eq_true rfl, Nat.le_of_ble_eq_true rfl, hc401, hc402⟩ dL_law_1162 xm_kx (xm_ki (fun r404 S403 h1 => ?_))
  refine x_iload C 1 dL_law_1165 rfl ?_
  refine x_icmp_eq (tgt := 1172) C dL_law_1167 (by decide) (fun z9 => ?_) (fun z9 => ?_)
  · have h1 := h1.1 z9
    refine x_iload C 1 dL_law_1172 rfl ?_
    refine x_if_ne (tgt := 1189) C dL_law_1174 (by decide) (fun z9 => ?_) (fun z9 => ?_)
    · have h1 := h1.1 z9
      refine x_keep (L' := [(0, xm_w0 b), (1, xm_r x1), (2, xm_r x2), (3, xm_r x3), (4, xm_i x4)]) C [2, 3, 4, 5, 6] rfl ?_
      exact kp_L_law_1189 b len xs x1 x2 x3 x4 S403 (kc + 1) (ks + 6) C N hSc hg hZ23 h1
    · have h1 := h1.2 z9
      refine x_aload_n C 5 dL_law_1177 rfl rfl ?_
      refine x_iconst (v := (0 : Int32)) C dL_law_1178 (by decide) ?_
      obtain ⟨n405, hr406, h1⟩ := h1
      obtain ⟨z408, ht407, h1⟩ := h1
      obtain ⟨hi409, h1⟩ := h1
      refine x_lald (n := n405) C hr406 ht407 hi409 dL_law_1179 ?_
      refine x_iload C 0 dL_law_1180 rfl ?_
      refine x_i2l C dL_law_1182 ?_
      refine x_lcmp C dL_law_1183 ?_
      refine x_if_eq (tgt := 1189) C dL_law_1184 (by decide) (fun z9 => ?_) (fun z9 => ?_)
      · have h1 := h1.1 z9
        refine x_keep (L' := [(0, xm_w0 b), (1, xm_r x1), (2, xm_r x2), (3, xm_r x3), (4, xm_i x4)]) C [2, 3, 4, 5, 6] rfl ?_
        exact kp_L_law_1189 b len xs x1 x2 x3 x4 S403 (kc + 1) (ks + 6) C N hSc hg hZ23 h1
      · have h1 := h1.2 z9
        refine x_iconst (v := (0 : Int32)) C dL_law_1187 (by decide) ?_
        obtain ⟨hc410, hc411, h1⟩ := h1
        exact x_zret C hc410 hc411 rfl (by decide) dL_law_1188 (hg _ _ h1)
  · have h1 := h1.2 z9
    refine x_iconst (v := (0 : Int32)) C dL_law_1170 (by decide) ?_
    obtain ⟨hc412, hc413, h1⟩ := h1
    exact x_zret C hc412 hc413 rfl (by decide) dL_law_1171 (hg _ _ h1)
def wp_L_law_1257 (b len : Nat) (xs : Nat → Int32) (x1 : Option Nat) (x2 : Option Nat) (x3 : Option Nat) (x4 : Int32) (S : xm_S) (kc ks : Nat) (g : Int32 → xm_S → Prop) (Z23 : Option Nat → Option Nat → Option Nat → Int32 → xm_S → Nat → Nat → Prop) : Prop :=
  wp_L_law_2965 b len xs x1 x2 x3 x4 S kc ks g Z23
set_option maxRecDepth 100000 in
set_option maxHeartbeats 4000000 in
theorem kp_L_law_1257 {K : xm_K} (b len : Nat) (xs : Nat → Int32) (x1 : Option Nat) (x2 : Option Nat) (x3 : Option Nat) (x4 : Int32) (S : xm_S) (kc ks : Nat) {g : Int32 → xm_S → Prop} {Z23 : Option Nat → Option Nat → Option Nat → Int32 → xm_S → Nat → Nat → Prop} (C : xm_Cx K cL_law RL 7 (some .boolean) rm_L_law) (N : xm_Nx K) (hSc : xm_Sc K b len xs) (hg : ∀ v S, g v S → xm_q K (some (xm_i v)) S) (hZ23 : ∀ x1 x2 x3 x4 S kc ks, Z23 x1 x2 x3 x4 S kc ks → xm_W K kc ks 23 [(0, xm_w0 b), (1, xm_r x1), (2, xm_r x2), (3, xm_r x3), (4, xm_i x4)] [] S) (h1 : wp_L_law_1257 b len xs x1 x2 x3 x4 S kc ks g Z23) : xm_W K kc ks 1257 [(0, xm_w0 b), (1, xm_r x1), (2, xm_r x2), (3, xm_r x3), (4, xm_i x4)] [] S := by
  unfold wp_L_law_1257 at h1
  refine x_goto (tgt := 2965) C dL_law_1257 (by decide) ?_
  exact kp_L_law_2965 b len xs x1 x2 x3 x4 S kc ks C N hSc hg hZ23 h1
def wp_L_law_1192 (b len : Nat) (xs : Nat → Int32) (x1 : Option Nat) (x2 : Option Nat) (x3 : Option Nat) (x4 : Int32) (S : xm_S) (kc ks : Nat) (g : Int32 → xm_S → Prop) (Z23 : Option Nat → Option Nat → Option Nat → Int32 → xm_S → Nat → Nat → Prop) : Prop :=
  vp_in (x4 + (1 : Int32)) len ∧ vp_in (x4 + (nI 2)) len ∧ kc + 2 ≤ 601024 ∧ ks + 12 ≤ 7293034 ∧ wp_L_solve x1 (xs ((x4 + (1 : Int32))).toNatClampNeg) (xs ((x4 + (nI 2))).toNatClampNeg) x3 S (fun r419 S418 => vp_in (x4 + (1 : Int32)) len ∧ vp_in (x4 + (nI 2)) len ∧ ∃ n422, x2 = some n422 ∧ st_t S418 n422 = some (12, 0) ∧ (kc + 2) ≤ 601024 ∧ (ks + 12) ≤ 7293034 ∧ wp_X12_solve n422 (xs ((x4 + (1 : Int32))).toNatClampNeg) (xs ((x4 + (nI 2))).toNatClampNeg) S418 (fun r428 S427 => ∃ n429, x2 = some n429 ∧ st_t S427 n429 = some (12, 0) ∧ (kc + 2) ≤ 601024 ∧ (ks + 12) ≤ 7293034 ∧ wp_X12_thrown n429 S427 (fun r435 S434 => (r435 = r419 → (¬ r419 = 0 → wp_L_law_1257 b len xs x1 x2 x3 x4 S434 (kc + 2) (ks + 12) g Z23) ∧ (r419 = 0 → ∃ n436, x3 = some n436 ∧ ∃ z439, st_t S434 n436 = some (103, z439) ∧ vp_in (0 : Int32) z439 ∧ ((lg_cmp (st_l S434 n436 ((0 : Int32)).toNatClampNeg) ((r428).toInt64)) = 0 → wp_L_law_1257 b len xs x1 x2 x3 x4 S434 (kc + 2) (ks + 12) g Z23) ∧ (¬ (lg_cmp (st_l S434 n436 ((0 : Int32)).toNatClampNeg) ((r428).toInt64)) = 0 → (kc + 2) ≤ 601024 ∧ (ks + 12) ≤ 7293034 ∧ g (0 : Int32) S434))) ∧ (¬ r435 = r419 → (kc + 2) ≤ 601024 ∧ (ks + 12) ≤ 7293034 ∧ g (0 : Int32) S434))))
set_option maxRecDepth 100000 in
set_option maxHeartbeats 4000000 in
theorem kp_L_law_1192 {K : xm_K} (b len : Nat) (xs : Nat → Int32) (x1 : Option Nat) (x2 : Option Nat) (x3 : Option Nat) (x4 : Int32) (S : xm_S) (kc ks : Nat) {g : Int32 → xm_S → Prop} {Z23 : Option Nat → Option Nat → Option Nat → Int32 → xm_S → Nat → Nat → Prop} (C : xm_Cx K cL_law RL 7 (some .boolean) rm_L_law) (N : xm_Nx K) (hSc : xm_Sc K b len xs) (hg : ∀ v S, g v S → xm_q K (some (xm_i v)) S) (hZ23 : ∀ x1 x2 x3 x4 S kc ks, Z23 x1 x2 x3 x4 S kc ks → xm_W K kc ks 23 [(0, xm_w0 b), (1, xm_r x1), (2, xm_r x2), (3, xm_r x3), (4, xm_i x4)] [] S) (h1 : wp_L_law_1192 b len xs x1 x2 x3 x4 S kc ks g Z23) : xm_W K kc ks 1192 [(0, xm_w0 b), (1, xm_r x1), (2, xm_r x2), (3, xm_r x3), (4, xm_i x4)] [] S := by
  unfold wp_L_law_1192 at h1
  refine x_aload_n C 1 dL_law_1192 rfl rfl ?_
  refine x_aload_n_w C 0 dL_law_1193 rfl rfl ?_
  refine x_iload C 4 dL_law_1194 rfl ?_
  refine x_iconst (v := (1 : Int32)) C dL_law_1196 (by decide) ?_
  refine x_iadd C dL_law_1197 ?_
  obtain ⟨hi414, h1⟩ := h1
  refine x_sald C hSc hi414 dL_law_1198 ?_
  refine x_aload_n_w C 0 dL_law_1199 rfl rfl ?_
  refine x_iload C 4 dL_law_1200 rfl ?_
  refine x_iconst (v := (nI 2)) C dL_law_1202 (by decide) ?_
  refine x_iadd C dL_law_1203 ?_
  obtain ⟨hi415, h1⟩ := h1
  refine x_sald C hSc hi415 dL_law_1204 ?_
  refine x_aload_n C 3 dL_law_1205 rfl rfl ?_
  obtain ⟨hc416, hc417, h1⟩ := h1
  refine x_callSH (rm' := rm_L_solve) (hh := [(0, 10, 13, 21)]) C (kp_L_solve_met h1) gw_1037 gw_932 gw_1038 ⟨by decide, by decide, show Option.map _ (parseMethodDescriptor yL_solve.desc) = some 4 from by decide +kernel⟩ gw_1039 rfl (Nat.le_of_ble_eq_true rfl) ⟨Nat.le_of_ble_eq_true rfl, Nat.le_of_ble_eq_true rfl, hc416, hc417⟩ dL_law_1206 xm_kx (xm_ki (fun r419 S418 h1 => ?_))
  refine x_istore (L' := [(5, xm_i r419), (0, xm_w0 b), (1, xm_r x1), (2, xm_r x2), (3, xm_r x3), (4, xm_i x4)]) C dL_law_1209 (by decide) rfl ?_
  refine x_aload_n C 3 dL_law_1211 rfl rfl ?_
  refine x_aload_n_w C 1 dL_law_1212 rfl rfl ?_
  refine x_iload C 5 dL_law_1213 rfl ?_
  refine x_iconst (v := (1 : Int32)) C dL_law_1215 (by decide) ?_
  refine x_iadd C dL_law_1216 ?_
  obtain ⟨hi420, h1⟩ := h1
  refine x_sald C hSc hi420 dL_law_1217 ?_
  refine x_aload_n_w C 1 dL_law_1218 rfl rfl ?_
  refine x_iload C 5 dL_law_1219 rfl ?_
  refine x_iconst (v := (nI 2)) C dL_law_1221 (by decide) ?_
  refine x_iadd C dL_law_1222 ?_
  obtain ⟨hi421, h1⟩ := h1
  refine x_sald C hSc hi421 dL_law_1223 ?_
  obtain ⟨n422, hr423, h1⟩ := h1
  obtain ⟨ht424, h1⟩ := h1
  obtain ⟨hc425, hc426, h1⟩ := h1
  refine x_callV (rm' := rm_X12_solve) (n := n422) C (kp_X12_solve_met h1) lk_188 gw_1042 gw_1043 xv_12 rfl hr423 ht424 rfl (Nat.le_of_ble_eq_true rfl) ⟨Nat.le_of_ble_eq_true rfl, Nat.le_of_ble_eq_true rfl, hc425, hc426⟩ dL_law_1224 xm_kx (xm_ki (fun r428 S427 h1 => ?_))
  refine x_istore (L' := [(6, xm_i r428), (5, xm_i r419), (0, xm_w0 b), (1, xm_r x1), (2, xm_r x2), (3, xm_r x3), (4, xm_i x4)]) C dL_law_1227 (by decide) rfl ?_
  refine x_aload_n C 4 dL_law_1229 rfl rfl ?_
  obtain ⟨n429, hr430, h1⟩ := h1
  obtain ⟨ht431, h1⟩ := h1
  obtain ⟨hc432, hc433, h1⟩ := h1
  refine x_callV (rm' := rm_X12_thrown) (n := n429) C (kp_X12_thrown_met h1) lk_171 gw_941 gw_942 xv_12 rfl hr430 ht431 rfl (Nat.le_of_ble_eq_true rfl) ⟨Nat.le_of_ble_eq_true rfl, Nat.le_of_ble_eq_true rfl, hc432, hc433⟩ dL_law_1230 xm_kx (xm_ki (fun r435 S434 h1 => ?_))
  refine x_iload C 1 dL_law_1233 rfl ?_
  refine x_icmp_eq (tgt := 1240) C dL_law_1235 (by decide) (fun z9 => ?_) (fun z9 => ?_)
  · have h1 := h1.1 z9
    refine x_iload C 1 dL_law_1240 rfl ?_
    refine x_if_ne (tgt := 1257) C dL_law_1242 (by decide) (fun z9 => ?_) (fun z9 => ?_)
    · have h1 := h1.1 z9
      refine x_keep (L' := [(0, xm_w0 b), (1, xm_r x1), (2, xm_r x2), (3, xm_r x3), (4, xm_i x4)]) C [2, 3, 4, 5, 6] rfl ?_
      exact kp_L_law_1257 b len xs x1 x2 x3 x4 S434 (kc + 2) (ks + 12) C N hSc hg hZ23 h1
    · have h1 := h1.2 z9
      refine x_aload_n C 5 dL_law_1245 rfl rfl ?_
      refine x_iconst (v := (0 : Int32)) C dL_law_1246 (by decide) ?_
      obtain ⟨n436, hr437, h1⟩ := h1
      obtain ⟨z439, ht438, h1⟩ := h1
      obtain ⟨hi440, h1⟩ := h1
      refine x_lald (n := n436) C hr437 ht438 hi440 dL_law_1247 ?_
      refine x_iload C 0 dL_law_1248 rfl ?_
      refine x_i2l C dL_law_1250 ?_
      refine x_lcmp C dL_law_1251 ?_
      refine x_if_eq (tgt := 1257) C dL_law_1252 (by decide) (fun z9 => ?_) (fun z9 => ?_)
      · have h1 := h1.1 z9
        refine x_keep (L' := [(0, xm_w0 b), (1, xm_r x1), (2, xm_r x2), (3, xm_r x3), (4, xm_i x4)]) C [2, 3, 4, 5, 6] rfl ?_
        exact kp_L_law_1257 b len xs x1 x2 x3 x4 S434 (kc + 2) (ks + 12) C N hSc hg hZ23 h1
      · have h1 := h1.2 z9
        refine x_iconst (v := (0 : Int32)) C dL_law_1255 (by decide) ?_
        obtain ⟨hc441, hc442, h1⟩ := h1
        exact x_zret C hc441 hc442 rfl (by decide) dL_law_1256 (hg _ _ h1)
  · have h1 := h1.2 z9
    refine x_iconst (v := (0 : Int32)) C dL_law_1238 (by decide) ?_
    obtain ⟨hc443, hc444, h1⟩ := h1
    exact x_zret C hc443 hc444 rfl (by decide) dL_law_1239 (hg _ _ h1)
def wp_L_law_1325 (b len : Nat) (xs : Nat → Int32) (x1 : Option Nat) (x2 : Option Nat) (x3 : Option Nat) (x4 : Int32) (S : xm_S) (kc ks : Nat) (g : Int32 → xm_S → Prop) (Z23 : Option Nat → Option Nat → Option Nat → Int32 → xm_S → Nat → Nat → Prop) : Prop :=
  wp_L_law_2965 b len xs x1 x2 x3 x4 S kc ks g Z23
set_option maxRecDepth 100000 in
set_option maxHeartbeats 4000000 in
theorem kp_L_law_1325 {K : xm_K} (b len : Nat) (xs : Nat → Int32) (x1 : Option Nat) (x2 : Option Nat) (x3 : Option Nat) (x4 : Int32) (S : xm_S) (kc ks : Nat) {g : Int32 → xm_S → Prop} {Z23 : Option Nat → Option Nat → Option Nat → Int32 → xm_S → Nat → Nat → Prop} (C : xm_Cx K cL_law RL 7 (some .boolean) rm_L_law) (N : xm_Nx K) (hSc : xm_Sc K b len xs) (hg : ∀ v S, g v S → xm_q K (some (xm_i v)) S) (hZ23 : ∀ x1 x2 x3 x4 S kc ks, Z23 x1 x2 x3 x4 S kc ks → xm_W K kc ks 23 [(0, xm_w0 b), (1, xm_r x1), (2, xm_r x2), (3, xm_r x3), (4, xm_i x4)] [] S) (h1 : wp_L_law_1325 b len xs x1 x2 x3 x4 S kc ks g Z23) : xm_W K kc ks 1325 [(0, xm_w0 b), (1, xm_r x1), (2, xm_r x2), (3, xm_r x3), (4, xm_i x4)] [] S := by
  unfold wp_L_law_1325 at h1
  refine x_goto (tgt := 2965) C dL_law_1325 (by decide) ?_
  exact kp_L_law_2965 b len xs x1 x2 x3 x4 S kc ks C N hSc hg hZ23 h1
def wp_L_law_1260 (b len : Nat) (xs : Nat → Int32) (x1 : Option Nat) (x2 : Option Nat) (x3 : Option Nat) (x4 : Int32) (S : xm_S) (kc ks : Nat) (g : Int32 → xm_S → Prop) (Z23 : Option Nat → Option Nat → Option Nat → Int32 → xm_S → Nat → Nat → Prop) : Prop :=
  vp_in (x4 + (1 : Int32)) len ∧ vp_in (x4 + (nI 2)) len ∧ kc + 2 ≤ 601024 ∧ ks + 12 ≤ 7293034 ∧ wp_L_proposed x1 (xs ((x4 + (1 : Int32))).toNatClampNeg) (xs ((x4 + (nI 2))).toNatClampNeg) x3 S (fun r450 S449 => vp_in (x4 + (1 : Int32)) len ∧ vp_in (x4 + (nI 2)) len ∧ ∃ n453, x2 = some n453 ∧ st_t S449 n453 = some (12, 0) ∧ (kc + 2) ≤ 601024 ∧ (ks + 12) ≤ 7293034 ∧ wp_X12_proposed n453 (xs ((x4 + (1 : Int32))).toNatClampNeg) (xs ((x4 + (nI 2))).toNatClampNeg) S449 (fun r459 S458 => ∃ n460, x2 = some n460 ∧ st_t S458 n460 = some (12, 0) ∧ (kc + 2) ≤ 601024 ∧ (ks + 12) ≤ 7293034 ∧ wp_X12_thrown n460 S458 (fun r466 S465 => (r466 = r450 → (¬ r450 = 0 → wp_L_law_1325 b len xs x1 x2 x3 x4 S465 (kc + 2) (ks + 12) g Z23) ∧ (r450 = 0 → ∃ n467, x3 = some n467 ∧ ∃ z470, st_t S465 n467 = some (103, z470) ∧ vp_in (0 : Int32) z470 ∧ ((lg_cmp (st_l S465 n467 ((0 : Int32)).toNatClampNeg) ((r459).toInt64)) = 0 → wp_L_law_1325 b len xs x1 x2 x3 x4 S465 (kc + 2) (ks + 12) g Z23) ∧ (¬ (lg_cmp (st_l S465 n467 ((0 : Int32)).toNatClampNeg) ((r459).toInt64)) = 0 → (kc + 2) ≤ 601024 ∧ (ks + 12) ≤ 7293034 ∧ g (0 : Int32) S465))) ∧ (¬ r466 = r450 → (kc + 2) ≤ 601024 ∧ (ks + 12) ≤ 7293034 ∧ g (0 : Int32) S465))))
set_option maxRecDepth 100000 in
set_option maxHeartbeats 4000000 in
theorem kp_L_law_1260 {K : xm_K} (b len : Nat) (xs : Nat → Int32) (x1 : Option Nat) (x2 : Option Nat) (x3 : Option Nat) (x4 : Int32) (S : xm_S) (kc ks : Nat) {g : Int32 → xm_S → Prop} {Z23 : Option Nat → Option Nat → Option Nat → Int32 → xm_S → Nat → Nat → Prop} (C : xm_Cx K cL_law RL 7 (some .boolean) rm_L_law) (N : xm_Nx K) (hSc : xm_Sc K b len xs) (hg : ∀ v S, g v S → xm_q K (some (xm_i v)) S) (hZ23 : ∀ x1 x2 x3 x4 S kc ks, Z23 x1 x2 x3 x4 S kc ks → xm_W K kc ks 23 [(0, xm_w0 b), (1, xm_r x1), (2, xm_r x2), (3, xm_r x3), (4, xm_i x4)] [] S) (h1 : wp_L_law_1260 b len xs x1 x2 x3 x4 S kc ks g Z23) : xm_W K kc ks 1260 [(0, xm_w0 b), (1, xm_r x1), (2, xm_r x2), (3, xm_r x3), (4, xm_i x4)] [] S := by
  unfold wp_L_law_1260 at h1
  refine x_aload_n C 1 dL_law_1260 rfl rfl ?_
  refine x_aload_n_w C 0 dL_law_1261 rfl rfl ?_
  refine x_iload C 4 dL_law_1262 rfl ?_
  refine x_iconst (v := (1 : Int32)) C dL_law_1264 (by decide) ?_
  refine x_iadd C dL_law_1265 ?_
  obtain ⟨hi445, h1⟩ := h1
  refine x_sald C hSc hi445 dL_law_1266 ?_
  refine x_aload_n_w C 0 dL_law_1267 rfl rfl ?_
  refine x_iload C 4 dL_law_1268 rfl ?_
  refine x_iconst (v := (nI 2)) C dL_law_1270 (by decide) ?_
  refine x_iadd C dL_law_1271 ?_
  obtain ⟨hi446, h1⟩ := h1
  refine x_sald C hSc hi446 dL_law_1272 ?_
  refine x_aload_n C 3 dL_law_1273 rfl rfl ?_
  obtain ⟨hc447, hc448, h1⟩ := h1
  refine x_callSH (rm' := rm_L_proposed) (hh := [(0, 10, 13, 21)]) C (kp_L_proposed_met h1) gw_1044 gw_932 gw_1045 ⟨by decide, by decide, show Option.map _ (parseMethodDescriptor yL_proposed.desc) = some 4 from by decide +kernel⟩ gw_1046 rfl (Nat.le_of_ble_eq_true rfl) ⟨Nat.le_of_ble_eq_true rfl, Nat.le_of_ble_eq_true rfl, hc447, hc448⟩ dL_law_1274 xm_kx (xm_ki (fun r450 S449 h1 => ?_))
  refine x_istore (L' := [(5, xm_i r450), (0, xm_w0 b), (1, xm_r x1), (2, xm_r x2), (3, xm_r x3), (4, xm_i x4)]) C dL_law_1277 (by decide) rfl ?_
  refine x_aload_n C 3 dL_law_1279 rfl rfl ?_
  refine x_aload_n_w C 1 dL_law_1280 rfl rfl ?_
  refine x_iload C 5 dL_law_1281 rfl ?_
  refine x_iconst (v := (1 : Int32)) C dL_law_1283 (by decide) ?_
  refine x_iadd C dL_law_1284 ?_
  obtain ⟨hi451, h1⟩ := h1
  refine x_sald C hSc hi451 dL_law_1285 ?_
  refine x_aload_n_w C 1 dL_law_1286 rfl rfl ?_
  refine x_iload C 5 dL_law_1287 rfl ?_
  refine x_iconst (v := (nI 2)) C dL_law_1289 (by decide) ?_
  refine x_iadd C dL_law_1290 ?_
  obtain ⟨hi452, h1⟩ := h1
  refine x_sald C hSc hi452 dL_law_1291 ?_
  obtain ⟨n453, hr454, h1⟩ := h1
  obtain ⟨ht455, h1⟩ := h1
  obtain ⟨hc456, hc457, h1⟩ := h1
  refine x_callV (rm' := rm_X12_proposed) (n := n453) C (kp_X12_proposed_met h1) lk_189 gw_1049 gw_1050 xv_12 rfl hr454 ht455 rfl (Nat.le_of_ble_eq_true rfl) ⟨Nat.le_of_ble_eq_true rfl, Nat.le_of_ble_eq_true rfl, hc456, hc457⟩ dL_law_1292 xm_kx (xm_ki (fun r459 S458 h1 => ?_))
  refine x_istore (L' := [(6, xm_i r459), (5, xm_i r450), (0, xm_w0 b), (1, xm_r x1), (2, xm_r x2), (3, xm_r x3), (4, xm_i x4)]) C dL_law_1295 (by decide) rfl ?_
  refine x_aload_n C 4 dL_law_1297 rfl rfl ?_
  obtain ⟨n460, hr461, h1⟩ := h1
  obtain ⟨ht462, h1⟩ := h1
  obtain ⟨hc463, hc464, h1⟩ := h1
  refine x_callV (rm' := rm_X12_thrown) (n := n460) C (kp_X12_thrown_met h1) lk_171 gw_941 gw_942 xv_12 rfl hr461 ht462 rfl (Nat.le_of_ble_eq_true rfl) ⟨Nat.le_of_ble_eq_true rfl, Nat.le_of_ble_eq_true rfl, hc463, hc464⟩ dL_law_1298 xm_kx (xm_ki (fun r466 S465 h1 => ?_))
  refine x_iload C 1 dL_law_1301 rfl ?_
  refine x_icmp_eq (tgt := 1308) C dL_law_1303 (by decide) (fun z9 => ?_) (fun z9 => ?_)
  · have h1 := h1.1 z9
    refine x_iload C 1 dL_law_1308 rfl ?_
    refine x_if_ne (tgt := 1325) C dL_law_1310 (by decide) (fun z9 => ?_) (fun z9 => ?_)
    · have h1 := h1.1 z9
      refine x_keep (L' := [(0, xm_w0 b), (1, xm_r x1), (2, xm_r x2), (3, xm_r x3), (4, xm_i x4)]) C [2, 3, 4, 5, 6] rfl ?_
      exact kp_L_law_1325 b len xs x1 x2 x3 x4 S465 (kc + 2) (ks + 12) C N hSc hg hZ23 h1
    · have h1 := h1.2 z9
      refine x_aload_n C 5 dL_law_1313 rfl rfl ?_
      refine x_iconst (v := (0 : Int32)) C dL_law_1314 (by decide) ?_
      obtain ⟨n467, hr468, h1⟩ := h1
      obtain ⟨z470, ht469, h1⟩ := h1
      obtain ⟨hi471, h1⟩ := h1
      refine x_lald (n := n467) C hr468 ht469 hi471 dL_law_1315 ?_
      refine x_iload C 0 dL_law_1316 rfl ?_
      refine x_i2l C dL_law_1318 ?_
      refine x_lcmp C dL_law_1319 ?_
      refine x_if_eq (tgt := 1325) C dL_law_1320 (by decide) (fun z9 => ?_) (fun z9 => ?_)
      · have h1 := h1.1 z9
        refine x_keep (L' := [(0, xm_w0 b), (1, xm_r x1), (2, xm_r x2), (3, xm_r x3), (4, xm_i x4)]) C [2, 3, 4, 5, 6] rfl ?_
        exact kp_L_law_1325 b len xs x1 x2 x3 x4 S465 (kc + 2) (ks + 12) C N hSc hg hZ23 h1
      · have h1 := h1.2 z9
        refine x_iconst (v := (0 : Int32)) C dL_law_1323 (by decide) ?_
        obtain ⟨hc472, hc473, h1⟩ := h1
        exact x_zret C hc472 hc473 rfl (by decide) dL_law_1324 (hg _ _ h1)
  · have h1 := h1.2 z9
    refine x_iconst (v := (0 : Int32)) C dL_law_1306 (by decide) ?_
    obtain ⟨hc474, hc475, h1⟩ := h1
    exact x_zret C hc474 hc475 rfl (by decide) dL_law_1307 (hg _ _ h1)
def wp_L_law_1381 (b len : Nat) (xs : Nat → Int32) (x1 : Option Nat) (x2 : Option Nat) (x3 : Option Nat) (x4 : Int32) (S : xm_S) (kc ks : Nat) (g : Int32 → xm_S → Prop) (Z23 : Option Nat → Option Nat → Option Nat → Int32 → xm_S → Nat → Nat → Prop) : Prop :=
  wp_L_law_2965 b len xs x1 x2 x3 x4 S kc ks g Z23
set_option maxRecDepth 100000 in
set_option maxHeartbeats 4000000 in
theorem kp_L_law_1381 {K : xm_K} (b len : Nat) (xs : Nat → Int32) (x1 : Option Nat) (x2 : Option Nat) (x3 : Option Nat) (x4 : Int32) (S : xm_S) (kc ks : Nat) {g : Int32 → xm_S → Prop} {Z23 : Option Nat → Option Nat → Option Nat → Int32 → xm_S → Nat → Nat → Prop} (C : xm_Cx K cL_law RL 7 (some .boolean) rm_L_law) (N : xm_Nx K) (hSc : xm_Sc K b len xs) (hg : ∀ v S, g v S → xm_q K (some (xm_i v)) S) (hZ23 : ∀ x1 x2 x3 x4 S kc ks, Z23 x1 x2 x3 x4 S kc ks → xm_W K kc ks 23 [(0, xm_w0 b), (1, xm_r x1), (2, xm_r x2), (3, xm_r x3), (4, xm_i x4)] [] S) (h1 : wp_L_law_1381 b len xs x1 x2 x3 x4 S kc ks g Z23) : xm_W K kc ks 1381 [(0, xm_w0 b), (1, xm_r x1), (2, xm_r x2), (3, xm_r x3), (4, xm_i x4)] [] S := by
  unfold wp_L_law_1381 at h1
  refine x_goto (tgt := 2965) C dL_law_1381 (by decide) ?_
  exact kp_L_law_2965 b len xs x1 x2 x3 x4 S kc ks C N hSc hg hZ23 h1
def wp_L_law_1328 (b len : Nat) (xs : Nat → Int32) (x1 : Option Nat) (x2 : Option Nat) (x3 : Option Nat) (x4 : Int32) (S : xm_S) (kc ks : Nat) (g : Int32 → xm_S → Prop) (Z23 : Option Nat → Option Nat → Option Nat → Int32 → xm_S → Nat → Nat → Prop) : Prop :=
  vp_in (x4 + (1 : Int32)) len ∧ kc + 1 ≤ 601024 ∧ ks + 6 ≤ 7293034 ∧ wp_L_closures x1 (xs ((x4 + (1 : Int32))).toNatClampNeg) x3 S (fun r480 S479 => vp_in (x4 + (1 : Int32)) len ∧ ∃ n482, x2 = some n482 ∧ st_t S479 n482 = some (12, 0) ∧ (kc + 1) ≤ 601024 ∧ (ks + 6) ≤ 7293034 ∧ wp_X12_closures n482 (xs ((x4 + (1 : Int32))).toNatClampNeg) S479 (fun r488 S487 => ∃ n489, x2 = some n489 ∧ st_t S487 n489 = some (12, 0) ∧ (kc + 1) ≤ 601024 ∧ (ks + 6) ≤ 7293034 ∧ wp_X12_thrown n489 S487 (fun r495 S494 => (r495 = r480 → (¬ r480 = 0 → wp_L_law_1381 b len xs x1 x2 x3 x4 S494 (kc + 1) (ks + 6) g Z23) ∧ (r480 = 0 → ∃ n496, x3 = some n496 ∧ ∃ z499, st_t S494 n496 = some (103, z499) ∧ vp_in (0 : Int32) z499 ∧ ((lg_cmp (st_l S494 n496 ((0 : Int32)).toNatClampNeg) ((r488).toInt64)) = 0 → wp_L_law_1381 b len xs x1 x2 x3 x4 S494 (kc + 1) (ks + 6) g Z23) ∧ (¬ (lg_cmp (st_l S494 n496 ((0 : Int32)).toNatClampNeg) ((r488).toInt64)) = 0 → (kc + 1) ≤ 601024 ∧ (ks + 6) ≤ 7293034 ∧ g (0 : Int32) S494))) ∧ (¬ r495 = r480 → (kc + 1) ≤ 601024 ∧ (ks + 6) ≤ 7293034 ∧ g (0 : Int32) S494))))
set_option maxRecDepth 100000 in
set_option maxHeartbeats 4000000 in
theorem kp_L_law_1328 {K : xm_K} (b len : Nat) (xs : Nat → Int32) (x1 : Option Nat) (x2 : Option Nat) (x3 : Option Nat) (x4 : Int32) (S : xm_S) (kc ks : Nat) {g : Int32 → xm_S → Prop} {Z23 : Option Nat → Option Nat → Option Nat → Int32 → xm_S → Nat → Nat → Prop} (C : xm_Cx K cL_law RL 7 (some .boolean) rm_L_law) (N : xm_Nx K) (hSc : xm_Sc K b len xs) (hg : ∀ v S, g v S → xm_q K (some (xm_i v)) S) (hZ23 : ∀ x1 x2 x3 x4 S kc ks, Z23 x1 x2 x3 x4 S kc ks → xm_W K kc ks 23 [(0, xm_w0 b), (1, xm_r x1), (2, xm_r x2), (3, xm_r x3), (4, xm_i x4)] [] S) (h1 : wp_L_law_1328 b len xs x1 x2 x3 x4 S kc ks g Z23) : xm_W K kc ks 1328 [(0, xm_w0 b), (1, xm_r x1), (2, xm_r x2), (3, xm_r x3), (4, xm_i x4)] [] S := by
  unfold wp_L_law_1328 at h1
  refine x_aload_n C 1 dL_law_1328 rfl rfl ?_
  refine x_aload_n_w C 0 dL_law_1329 rfl rfl ?_
  refine x_iload C 4 dL_law_1330 rfl ?_
  refine x_iconst (v := (1 : Int32)) C dL_law_1332 (by decide) ?_
  refine x_iadd C dL_law_1333 ?_
  obtain ⟨hi476, h1⟩ := h1
  refine x_sald C hSc hi476 dL_law_1334 ?_
  refine x_aload_n C 3 dL_law_1335 rfl rfl ?_
  obtain ⟨hc477, hc478, h1⟩ := h1
  refine x_callSH (rm' := rm_L_closures) (hh := [(0, 9, 12, 21)]) C (kp_L_closures_met h1) gw_1051 gw_932 gw_1052 ⟨by decide, by decide, show Option.map _ (parseMethodDescriptor yL_closures.desc) = some 3 from by decide +kernel⟩ gw_1053 rfl (Nat.le_of_ble_eq_true rfl) ⟨Nat.le_of_ble_eq_true rfl, Nat.le_of_ble_eq_true rfl, hc477, hc478⟩ dL_law_1336 xm_kx (xm_ki (fun r480 S479 h1 => ?_))
  refine x_istore (L' := [(5, xm_i r480), (0, xm_w0 b), (1, xm_r x1), (2, xm_r x2), (3, xm_r x3), (4, xm_i x4)]) C dL_law_1339 (by decide) rfl ?_
  refine x_aload_n C 3 dL_law_1341 rfl rfl ?_
  refine x_aload_n_w C 1 dL_law_1342 rfl rfl ?_
  refine x_iload C 5 dL_law_1343 rfl ?_
  refine x_iconst (v := (1 : Int32)) C dL_law_1345 (by decide) ?_
  refine x_iadd C dL_law_1346 ?_
  obtain ⟨hi481, h1⟩ := h1
  refine x_sald C hSc hi481 dL_law_1347 ?_
  obtain ⟨n482, hr483, h1⟩ := h1
  obtain ⟨ht484, h1⟩ := h1
  obtain ⟨hc485, hc486, h1⟩ := h1
  refine x_callV (rm' := rm_X12_closures) (n := n482) C (kp_X12_closures_met h1) lk_190 gw_1056 gw_1057 xv_12 rfl hr483 ht484 rfl (Nat.le_of_ble_eq_true rfl) ⟨Nat.le_of_ble_eq_true rfl, Nat.le_of_ble_eq_true rfl, hc485, hc486⟩ dL_law_1348 xm_kx (xm_ki (fun r488 S487 h1 => ?_))
  refine x_istore (L' := [(6, xm_i r488), (5, xm_i r480), (0, xm_w0 b), (1, xm_r x1), (2, xm_r x2), (3, xm_r x3), (4, xm_i x4)]) C dL_law_1351 (by decide) rfl ?_
  refine x_aload_n C 4 dL_law_1353 rfl rfl ?_
  obtain ⟨n489, hr490, h1⟩ := h1
  obtain ⟨ht491, h1⟩ := h1
  obtain ⟨hc492, hc493, h1⟩ := h1
  refine x_callV (rm' := rm_X12_thrown) (n := n489) C (kp_X12_thrown_met h1) lk_171 gw_941 gw_942 xv_12 rfl hr490 ht491 rfl (Nat.le_of_ble_eq_true rfl) ⟨Nat.le_of_ble_eq_true rfl, Nat.le_of_ble_eq_true rfl, hc492, hc493⟩ dL_law_1354 xm_kx (xm_ki (fun r495 S494 h1 => ?_))
  refine x_iload C 1 dL_law_1357 rfl ?_
  refine x_icmp_eq (tgt := 1364) C dL_law_1359 (by decide) (fun z9 => ?_) (fun z9 => ?_)
  · have h1 := h1.1 z9
    refine x_iload C 1 dL_law_1364 rfl ?_
    refine x_if_ne (tgt := 1381) C dL_law_1366 (by decide) (fun z9 => ?_) (fun z9 => ?_)
    · have h1 := h1.1 z9
      refine x_keep (L' := [(0, xm_w0 b), (1, xm_r x1), (2, xm_r x2), (3, xm_r x3), (4, xm_i x4)]) C [2, 3, 4, 5, 6] rfl ?_
      exact kp_L_law_1381 b len xs x1 x2 x3 x4 S494 (kc + 1) (ks + 6) C N hSc hg hZ23 h1
    · have h1 := h1.2 z9
      refine x_aload_n C 5 dL_law_1369 rfl rfl ?_
      refine x_iconst (v := (0 : Int32)) C dL_law_1370 (by decide) ?_
      obtain ⟨n496, hr497, h1⟩ := h1
      obtain ⟨z499, ht498, h1⟩ := h1
      obtain ⟨hi500, h1⟩ := h1
      refine x_lald (n := n496) C hr497 ht498 hi500 dL_law_1371 ?_
      refine x_iload C 0 dL_law_1372 rfl ?_
      refine x_i2l C dL_law_1374 ?_
      refine x_lcmp C dL_law_1375 ?_
      refine x_if_eq (tgt := 1381) C dL_law_1376 (by decide) (fun z9 => ?_) (fun z9 => ?_)
      · have h1 := h1.1 z9
        refine x_keep (L' := [(0, xm_w0 b), (1, xm_r x1), (2, xm_r x2), (3, xm_r x3), (4, xm_i x4)]) C [2, 3, 4, 5, 6] rfl ?_
        exact kp_L_law_1381 b len xs x1 x2 x3 x4 S494 (kc + 1) (ks + 6) C N hSc hg hZ23 h1
      · have h1 := h1.2 z9
        refine x_iconst (v := (0 : Int32)) C dL_law_1379 (by decide) ?_
        obtain ⟨hc501, hc502, h1⟩ := h1
        exact x_zret C hc501 hc502 rfl (by decide) dL_law_1380 (hg _ _ h1)
  · have h1 := h1.2 z9
    refine x_iconst (v := (0 : Int32)) C dL_law_1362 (by decide) ?_
    obtain ⟨hc503, hc504, h1⟩ := h1
    exact x_zret C hc503 hc504 rfl (by decide) dL_law_1363 (hg _ _ h1)
def wp_L_law_1437 (b len : Nat) (xs : Nat → Int32) (x1 : Option Nat) (x2 : Option Nat) (x3 : Option Nat) (x4 : Int32) (S : xm_S) (kc ks : Nat) (g : Int32 → xm_S → Prop) (Z23 : Option Nat → Option Nat → Option Nat → Int32 → xm_S → Nat → Nat → Prop) : Prop :=
  wp_L_law_2965 b len xs x1 x2 x3 x4 S kc ks g Z23
set_option maxRecDepth 100000 in
set_option maxHeartbeats 4000000 in
theorem kp_L_law_1437 {K : xm_K} (b len : Nat) (xs : Nat → Int32) (x1 : Option Nat) (x2 : Option Nat) (x3 : Option Nat) (x4 : Int32) (S : xm_S) (kc ks : Nat) {g : Int32 → xm_S → Prop} {Z23 : Option Nat → Option Nat → Option Nat → Int32 → xm_S → Nat → Nat → Prop} (C : xm_Cx K cL_law RL 7 (some .boolean) rm_L_law) (N : xm_Nx K) (hSc : xm_Sc K b len xs) (hg : ∀ v S, g v S → xm_q K (some (xm_i v)) S) (hZ23 : ∀ x1 x2 x3 x4 S kc ks, Z23 x1 x2 x3 x4 S kc ks → xm_W K kc ks 23 [(0, xm_w0 b), (1, xm_r x1), (2, xm_r x2), (3, xm_r x3), (4, xm_i x4)] [] S) (h1 : wp_L_law_1437 b len xs x1 x2 x3 x4 S kc ks g Z23) : xm_W K kc ks 1437 [(0, xm_w0 b), (1, xm_r x1), (2, xm_r x2), (3, xm_r x3), (4, xm_i x4)] [] S := by
  unfold wp_L_law_1437 at h1
  refine x_goto (tgt := 2965) C dL_law_1437 (by decide) ?_
  exact kp_L_law_2965 b len xs x1 x2 x3 x4 S kc ks C N hSc hg hZ23 h1
def wp_L_law_1384 (b len : Nat) (xs : Nat → Int32) (x1 : Option Nat) (x2 : Option Nat) (x3 : Option Nat) (x4 : Int32) (S : xm_S) (kc ks : Nat) (g : Int32 → xm_S → Prop) (Z23 : Option Nat → Option Nat → Option Nat → Int32 → xm_S → Nat → Nat → Prop) : Prop :=
  vp_in (x4 + (1 : Int32)) len ∧ kc + 1 ≤ 601024 ∧ ks + 6 ≤ 7293034 ∧ wp_L_story x1 (xs ((x4 + (1 : Int32))).toNatClampNeg) x3 S (fun r509 S508 => vp_in (x4 + (1 : Int32)) len ∧ ∃ n511, x2 = some n511 ∧ st_t S508 n511 = some (12, 0) ∧ (kc + 1) ≤ 601024 ∧ (ks + 6) ≤ 7293034 ∧ wp_X12_story n511 (xs ((x4 + (1 : Int32))).toNatClampNeg) S508 (fun r517 S516 => ∃ n518, x2 = some n518 ∧ st_t S516 n518 = some (12, 0) ∧ (kc + 1) ≤ 601024 ∧ (ks + 6) ≤ 7293034 ∧ wp_X12_thrown n518 S516 (fun r524 S523 => (r524 = r509 → (¬ r509 = 0 → wp_L_law_1437 b len xs x1 x2 x3 x4 S523 (kc + 1) (ks + 6) g Z23) ∧ (r509 = 0 → ∃ n525, x3 = some n525 ∧ ∃ z528, st_t S523 n525 = some (103, z528) ∧ vp_in (0 : Int32) z528 ∧ ((lg_cmp (st_l S523 n525 ((0 : Int32)).toNatClampNeg) ((r517).toInt64)) = 0 → wp_L_law_1437 b len xs x1 x2 x3 x4 S523 (kc + 1) (ks + 6) g Z23) ∧ (¬ (lg_cmp (st_l S523 n525 ((0 : Int32)).toNatClampNeg) ((r517).toInt64)) = 0 → (kc + 1) ≤ 601024 ∧ (ks + 6) ≤ 7293034 ∧ g (0 : Int32) S523))) ∧ (¬ r524 = r509 → (kc + 1) ≤ 601024 ∧ (ks + 6) ≤ 7293034 ∧ g (0 : Int32) S523))))
set_option maxRecDepth 100000 in
set_option maxHeartbeats 4000000 in
theorem kp_L_law_1384 {K : xm_K} (b len : Nat) (xs : Nat → Int32) (x1 : Option Nat) (x2 : Option Nat) (x3 : Option Nat) (x4 : Int32) (S : xm_S) (kc ks : Nat) {g : Int32 → xm_S → Prop} {Z23 : Option Nat → Option Nat → Option Nat → Int32 → xm_S → Nat → Nat → Prop} (C : xm_Cx K cL_law RL 7 (some .boolean) rm_L_law) (N : xm_Nx K) (hSc : xm_Sc K b len xs) (hg : ∀ v S, g v S → xm_q K (some (xm_i v)) S) (hZ23 : ∀ x1 x2 x3 x4 S kc ks, Z23 x1 x2 x3 x4 S kc ks → xm_W K kc ks 23 [(0, xm_w0 b), (1, xm_r x1), (2, xm_r x2), (3, xm_r x3), (4, xm_i x4)] [] S) (h1 : wp_L_law_1384 b len xs x1 x2 x3 x4 S kc ks g Z23) : xm_W K kc ks 1384 [(0, xm_w0 b), (1, xm_r x1), (2, xm_r x2), (3, xm_r x3), (4, xm_i x4)] [] S := by
  unfold wp_L_law_1384 at h1
  refine x_aload_n C 1 dL_law_1384 rfl rfl ?_
  refine x_aload_n_w C 0 dL_law_1385 rfl rfl ?_
  refine x_iload C 4 dL_law_1386 rfl ?_
  refine x_iconst (v := (1 : Int32)) C dL_law_1388 (by decide) ?_
  refine x_iadd C dL_law_1389 ?_
  obtain ⟨hi505, h1⟩ := h1
  refine x_sald C hSc hi505 dL_law_1390 ?_
  refine x_aload_n C 3 dL_law_1391 rfl rfl ?_
  obtain ⟨hc506, hc507, h1⟩ := h1
  refine x_callSH (rm' := rm_L_story) (hh := [(0, 9, 12, 21)]) C (kp_L_story_met h1) gw_1058 gw_932 gw_1059 ⟨by decide, by decide, show Option.map _ (parseMethodDescriptor yL_story.desc) = some 3 from by decide +kernel⟩ gw_1060 rfl (Nat.le_of_ble_eq_true rfl) ⟨Nat.le_of_ble_eq_true rfl, Nat.le_of_ble_eq_true rfl, hc506, hc507⟩ dL_law_1392 xm_kx (xm_ki (fun r509 S508 h1 => ?_))
  refine x_istore (L' := [(5, xm_i r509), (0, xm_w0 b), (1, xm_r x1), (2, xm_r x2), (3, xm_r x3), (4, xm_i x4)]) C dL_law_1395 (by decide) rfl ?_
  refine x_aload_n C 3 dL_law_1397 rfl rfl ?_
  refine x_aload_n_w C 1 dL_law_1398 rfl rfl ?_
  refine x_iload C 5 dL_law_1399 rfl ?_
  refine x_iconst (v := (1 : Int32)) C dL_law_1401 (by decide) ?_
  refine x_iadd C dL_law_1402 ?_
  obtain ⟨hi510, h1⟩ := h1
  refine x_sald C hSc hi510 dL_law_1403 ?_
  obtain ⟨n511, hr512, h1⟩ := h1
  obtain ⟨ht513, h1⟩ := h1
  obtain ⟨hc514, hc515, h1⟩ := h1
  refine x_callV (rm' := rm_X12_story) (n := n511) C (kp_X12_story_met h1) lk_191 gw_1063 gw_1064 xv_12 rfl hr512 ht513 rfl (Nat.le_of_ble_eq_true rfl) ⟨Nat.le_of_ble_eq_true rfl, Nat.le_of_ble_eq_true rfl, hc514, hc515⟩ dL_law_1404 xm_kx (xm_ki (fun r517 S516 h1 => ?_))
  refine x_istore (L' := [(6, xm_i r517), (5, xm_i r509), (0, xm_w0 b), (1, xm_r x1), (2, xm_r x2), (3, xm_r x3), (4, xm_i x4)]) C dL_law_1407 (by decide) rfl ?_
  refine x_aload_n C 4 dL_law_1409 rfl rfl ?_
  obtain ⟨n518, hr519, h1⟩ := h1
  obtain ⟨ht520, h1⟩ := h1
  obtain ⟨hc521, hc522, h1⟩ := h1
  refine x_callV (rm' := rm_X12_thrown) (n := n518) C (kp_X12_thrown_met h1) lk_171 gw_941 gw_942 xv_12 rfl hr519 ht520 rfl (Nat.le_of_ble_eq_true rfl) ⟨Nat.le_of_ble_eq_true rfl, Nat.le_of_ble_eq_true rfl, hc521, hc522⟩ dL_law_1410 xm_kx (xm_ki (fun r524 S523 h1 => ?_))
  refine x_iload C 1 dL_law_1413 rfl ?_
  refine x_icmp_eq (tgt := 1420) C dL_law_1415 (by decide) (fun z9 => ?_) (fun z9 => ?_)
  · have h1 := h1.1 z9
    refine x_iload C 1 dL_law_1420 rfl ?_
    refine x_if_ne (tgt := 1437) C dL_law_1422 (by decide) (fun z9 => ?_) (fun z9 => ?_)
    · have h1 := h1.1 z9
      refine x_keep (L' := [(0, xm_w0 b), (1, xm_r x1), (2, xm_r x2), (3, xm_r x3), (4, xm_i x4)]) C [2, 3, 4, 5, 6] rfl ?_
      exact kp_L_law_1437 b len xs x1 x2 x3 x4 S523 (kc + 1) (ks + 6) C N hSc hg hZ23 h1
    · have h1 := h1.2 z9
      refine x_aload_n C 5 dL_law_1425 rfl rfl ?_
      refine x_iconst (v := (0 : Int32)) C dL_law_1426 (by decide) ?_
      obtain ⟨n525, hr526, h1⟩ := h1
      obtain ⟨z528, ht527, h1⟩ := h1
      obtain ⟨hi529, h1⟩ := h1
      refine x_lald (n := n525) C hr526 ht527 hi529 dL_law_1427 ?_
      refine x_iload C 0 dL_law_1428 rfl ?_
      refine x_i2l C dL_law_1430 ?_
      refine x_lcmp C dL_law_1431 ?_
      refine x_if_eq (tgt := 1437) C dL_law_1432 (by decide) (fun z9 => ?_) (fun z9 => ?_)
      · have h1 := h1.1 z9
        refine x_keep (L' := [(0, xm_w0 b), (1, xm_r x1), (2, xm_r x2), (3, xm_r x3), (4, xm_i x4)]) C [2, 3, 4, 5, 6] rfl ?_
        exact kp_L_law_1437 b len xs x1 x2 x3 x4 S523 (kc + 1) (ks + 6) C N hSc hg hZ23 h1
      · have h1 := h1.2 z9
        refine x_iconst (v := (0 : Int32)) C dL_law_1435 (by decide) ?_
        obtain ⟨hc530, hc531, h1⟩ := h1
        exact x_zret C hc530 hc531 rfl (by decide) dL_law_1436 (hg _ _ h1)
  · have h1 := h1.2 z9
    refine x_iconst (v := (0 : Int32)) C dL_law_1418 (by decide) ?_
    obtain ⟨hc532, hc533, h1⟩ := h1
    exact x_zret C hc532 hc533 rfl (by decide) dL_law_1419 (hg _ _ h1)
def wp_L_law_1493 (b len : Nat) (xs : Nat → Int32) (x1 : Option Nat) (x2 : Option Nat) (x3 : Option Nat) (x4 : Int32) (S : xm_S) (kc ks : Nat) (g : Int32 → xm_S → Prop) (Z23 : Option Nat → Option Nat → Option Nat → Int32 → xm_S → Nat → Nat → Prop) : Prop :=
  wp_L_law_2965 b len xs x1 x2 x3 x4 S kc ks g Z23
set_option maxRecDepth 100000 in
set_option maxHeartbeats 4000000 in
theorem kp_L_law_1493 {K : xm_K} (b len : Nat) (xs : Nat → Int32) (x1 : Option Nat) (x2 : Option Nat) (x3 : Option Nat) (x4 : Int32) (S : xm_S) (kc ks : Nat) {g : Int32 → xm_S → Prop} {Z23 : Option Nat → Option Nat → Option Nat → Int32 → xm_S → Nat → Nat → Prop} (C : xm_Cx K cL_law RL 7 (some .boolean) rm_L_law) (N : xm_Nx K) (hSc : xm_Sc K b len xs) (hg : ∀ v S, g v S → xm_q K (some (xm_i v)) S) (hZ23 : ∀ x1 x2 x3 x4 S kc ks, Z23 x1 x2 x3 x4 S kc ks → xm_W K kc ks 23 [(0, xm_w0 b), (1, xm_r x1), (2, xm_r x2), (3, xm_r x3), (4, xm_i x4)] [] S) (h1 : wp_L_law_1493 b len xs x1 x2 x3 x4 S kc ks g Z23) : xm_W K kc ks 1493 [(0, xm_w0 b), (1, xm_r x1), (2, xm_r x2), (3, xm_r x3), (4, xm_i x4)] [] S := by
  unfold wp_L_law_1493 at h1
  refine x_goto (tgt := 2965) C dL_law_1493 (by decide) ?_
  exact kp_L_law_2965 b len xs x1 x2 x3 x4 S kc ks C N hSc hg hZ23 h1
def wp_L_law_1440 (b len : Nat) (xs : Nat → Int32) (x1 : Option Nat) (x2 : Option Nat) (x3 : Option Nat) (x4 : Int32) (S : xm_S) (kc ks : Nat) (g : Int32 → xm_S → Prop) (Z23 : Option Nat → Option Nat → Option Nat → Int32 → xm_S → Nat → Nat → Prop) : Prop :=
  vp_in (x4 + (1 : Int32)) len ∧ kc + 2 ≤ 601024 ∧ ks + 12 ≤ 7293034 ∧ wp_L_lock x1 (xs ((x4 + (1 : Int32))).toNatClampNeg) x3 S (fun r538 S537 => vp_in (x4 + (1 : Int32)) len ∧ ∃ n540, x2 = some n540 ∧ st_t S537 n540 = some (12, 0) ∧ (kc + 2) ≤ 601024 ∧ (ks + 12) ≤ 7293034 ∧ wp_X12_lock n540 (xs ((x4 + (1 : Int32))).toNatClampNeg) S537 (fun r546 S545 => ∃ n547, x2 = some n547 ∧ st_t S545 n547 = some (12, 0) ∧ (kc + 2) ≤ 601024 ∧ (ks + 12) ≤ 7293034 ∧ wp_X12_thrown n547 S545 (fun r553 S552 => (r553 = r538 → (¬ r538 = 0 → wp_L_law_1493 b len xs x1 x2 x3 x4 S552 (kc + 2) (ks + 12) g Z23) ∧ (r538 = 0 → ∃ n554, x3 = some n554 ∧ ∃ z557, st_t S552 n554 = some (103, z557) ∧ vp_in (0 : Int32) z557 ∧ ((lg_cmp (st_l S552 n554 ((0 : Int32)).toNatClampNeg) ((r546).toInt64)) = 0 → wp_L_law_1493 b len xs x1 x2 x3 x4 S552 (kc + 2) (ks + 12) g Z23) ∧ (¬ (lg_cmp (st_l S552 n554 ((0 : Int32)).toNatClampNeg) ((r546).toInt64)) = 0 → (kc + 2) ≤ 601024 ∧ (ks + 12) ≤ 7293034 ∧ g (0 : Int32) S552))) ∧ (¬ r553 = r538 → (kc + 2) ≤ 601024 ∧ (ks + 12) ≤ 7293034 ∧ g (0 : Int32) S552))))
set_option maxRecDepth 100000 in
set_option maxHeartbeats 4000000 in
theorem kp_L_law_1440 {K : xm_K} (b len : Nat) (xs : Nat → Int32) (x1 : Option Nat) (x2 : Option Nat) (x3 : Option Nat) (x4 : Int32) (S : xm_S) (kc ks : Nat) {g : Int32 → xm_S → Prop} {Z23 : Option Nat → Option Nat → Option Nat → Int32 → xm_S → Nat → Nat → Prop} (C : xm_Cx K cL_law RL 7 (some .boolean) rm_L_law) (N : xm_Nx K) (hSc : xm_Sc K b len xs) (hg : ∀ v S, g v S → xm_q K (some (xm_i v)) S) (hZ23 : ∀ x1 x2 x3 x4 S kc ks, Z23 x1 x2 x3 x4 S kc ks → xm_W K kc ks 23 [(0, xm_w0 b), (1, xm_r x1), (2, xm_r x2), (3, xm_r x3), (4, xm_i x4)] [] S) (h1 : wp_L_law_1440 b len xs x1 x2 x3 x4 S kc ks g Z23) : xm_W K kc ks 1440 [(0, xm_w0 b), (1, xm_r x1), (2, xm_r x2), (3, xm_r x3), (4, xm_i x4)] [] S := by
  unfold wp_L_law_1440 at h1
  refine x_aload_n C 1 dL_law_1440 rfl rfl ?_
  refine x_aload_n_w C 0 dL_law_1441 rfl rfl ?_
  refine x_iload C 4 dL_law_1442 rfl ?_
  refine x_iconst (v := (1 : Int32)) C dL_law_1444 (by decide) ?_
  refine x_iadd C dL_law_1445 ?_
  obtain ⟨hi534, h1⟩ := h1
  refine x_sald C hSc hi534 dL_law_1446 ?_
  refine x_aload_n C 3 dL_law_1447 rfl rfl ?_
  obtain ⟨hc535, hc536, h1⟩ := h1
  refine x_callSH (rm' := rm_L_lock) (hh := [(0, 9, 12, 21), (0, 9, 15, 15)]) C (kp_L_lock_met h1) gw_1065 gw_932 gw_1066 ⟨by decide, by decide, show Option.map _ (parseMethodDescriptor yL_lock.desc) = some 3 from by decide +kernel⟩ gw_1067 rfl (Nat.le_of_ble_eq_true rfl) ⟨Nat.le_of_ble_eq_true rfl, Nat.le_of_ble_eq_true rfl, hc535, hc536⟩ dL_law_1448 xm_kx (xm_ki (fun r538 S537 h1 => ?_))
  refine x_istore (L' := [(5, xm_i r538), (0, xm_w0 b), (1, xm_r x1), (2, xm_r x2), (3, xm_r x3), (4, xm_i x4)]) C dL_law_1451 (by decide) rfl ?_
  refine x_aload_n C 3 dL_law_1453 rfl rfl ?_
  refine x_aload_n_w C 1 dL_law_1454 rfl rfl ?_
  refine x_iload C 5 dL_law_1455 rfl ?_
  refine x_iconst (v := (1 : Int32)) C dL_law_1457 (by decide) ?_
  refine x_iadd C dL_law_1458 ?_
  obtain ⟨hi539, h1⟩ := h1
  refine x_sald C hSc hi539 dL_law_1459 ?_
  obtain ⟨n540, hr541, h1⟩ := h1
  obtain ⟨ht542, h1⟩ := h1
  obtain ⟨hc543, hc544, h1⟩ := h1
  refine x_callV (rm' := rm_X12_lock) (n := n540) C (kp_X12_lock_met h1) lk_192 gw_1070 gw_1071 xv_12 rfl hr541 ht542 rfl (Nat.le_of_ble_eq_true rfl) ⟨Nat.le_of_ble_eq_true rfl, Nat.le_of_ble_eq_true rfl, hc543, hc544⟩ dL_law_1460 xm_kx (xm_ki (fun r546 S545 h1 => ?_))
  refine x_istore (L' := [(6, xm_i r546), (5, xm_i r538), (0, xm_w0 b), (1, xm_r x1), (2, xm_r x2), (3, xm_r x3), (4, xm_i x4)]) C dL_law_1463 (by decide) rfl ?_
  refine x_aload_n C 4 dL_law_1465 rfl rfl ?_
  obtain ⟨n547, hr548, h1⟩ := h1
  obtain ⟨ht549, h1⟩ := h1
  obtain ⟨hc550, hc551, h1⟩ := h1
  refine x_callV (rm' := rm_X12_thrown) (n := n547) C (kp_X12_thrown_met h1) lk_171 gw_941 gw_942 xv_12 rfl hr548 ht549 rfl (Nat.le_of_ble_eq_true rfl) ⟨Nat.le_of_ble_eq_true rfl, Nat.le_of_ble_eq_true rfl, hc550, hc551⟩ dL_law_1466 xm_kx (xm_ki (fun r553 S552 h1 => ?_))
  refine x_iload C 1 dL_law_1469 rfl ?_
  refine x_icmp_eq (tgt := 1476) C dL_law_1471 (by decide) (fun z9 => ?_) (fun z9 => ?_)
  · have h1 := h1.1 z9
    refine x_iload C 1 dL_law_1476 rfl ?_
    refine x_if_ne (tgt := 1493) C dL_law_1478 (by decide) (fun z9 => ?_) (fun z9 => ?_)
    · have h1 := h1.1 z9
      refine x_keep (L' := [(0, xm_w0 b), (1, xm_r x1), (2, xm_r x2), (3, xm_r x3), (4, xm_i x4)]) C [2, 3, 4, 5, 6] rfl ?_
      exact kp_L_law_1493 b len xs x1 x2 x3 x4 S552 (kc + 2) (ks + 12) C N hSc hg hZ23 h1
    · have h1 := h1.2 z9
      refine x_aload_n C 5 dL_law_1481 rfl rfl ?_
      refine x_iconst (v := (0 : Int32)) C dL_law_1482 (by decide) ?_
      obtain ⟨n554, hr555, h1⟩ := h1
      obtain ⟨z557, ht556, h1⟩ := h1
      obtain ⟨hi558, h1⟩ := h1
      refine x_lald (n := n554) C hr555 ht556 hi558 dL_law_1483 ?_
      refine x_iload C 0 dL_law_1484 rfl ?_
      refine x_i2l C dL_law_1486 ?_
      refine x_lcmp C dL_law_1487 ?_
      refine x_if_eq (tgt := 1493) C dL_law_1488 (by decide) (fun z9 => ?_) (fun z9 => ?_)
      · have h1 := h1.1 z9
        refine x_keep (L' := [(0, xm_w0 b), (1, xm_r x1), (2, xm_r x2), (3, xm_r x3), (4, xm_i x4)]) C [2, 3, 4, 5, 6] rfl ?_
        exact kp_L_law_1493 b len xs x1 x2 x3 x4 S552 (kc + 2) (ks + 12) C N hSc hg hZ23 h1
      · have h1 := h1.2 z9
        refine x_iconst (v := (0 : Int32)) C dL_law_1491 (by decide) ?_
        obtain ⟨hc559, hc560, h1⟩ := h1
        exact x_zret C hc559 hc560 rfl (by decide) dL_law_1492 (hg _ _ h1)
  · have h1 := h1.2 z9
    refine x_iconst (v := (0 : Int32)) C dL_law_1474 (by decide) ?_
    obtain ⟨hc561, hc562, h1⟩ := h1
    exact x_zret C hc561 hc562 rfl (by decide) dL_law_1475 (hg _ _ h1)
def wp_L_law_1561 (b len : Nat) (xs : Nat → Int32) (x1 : Option Nat) (x2 : Option Nat) (x3 : Option Nat) (x4 : Int32) (S : xm_S) (kc ks : Nat) (g : Int32 → xm_S → Prop) (Z23 : Option Nat → Option Nat → Option Nat → Int32 → xm_S → Nat → Nat → Prop) : Prop :=
  wp_L_law_2965 b len xs x1 x2 x3 x4 S kc ks g Z23
set_option maxRecDepth 100000 in
set_option maxHeartbeats 4000000 in
theorem kp_L_law_1561 {K : xm_K} (b len : Nat) (xs : Nat → Int32) (x1 : Option Nat) (x2 : Option Nat) (x3 : Option Nat) (x4 : Int32) (S : xm_S) (kc ks : Nat) {g : Int32 → xm_S → Prop} {Z23 : Option Nat → Option Nat → Option Nat → Int32 → xm_S → Nat → Nat → Prop} (C : xm_Cx K cL_law RL 7 (some .boolean) rm_L_law) (N : xm_Nx K) (hSc : xm_Sc K b len xs) (hg : ∀ v S, g v S → xm_q K (some (xm_i v)) S) (hZ23 : ∀ x1 x2 x3 x4 S kc ks, Z23 x1 x2 x3 x4 S kc ks → xm_W K kc ks 23 [(0, xm_w0 b), (1, xm_r x1), (2, xm_r x2), (3, xm_r x3), (4, xm_i x4)] [] S) (h1 : wp_L_law_1561 b len xs x1 x2 x3 x4 S kc ks g Z23) : xm_W K kc ks 1561 [(0, xm_w0 b), (1, xm_r x1), (2, xm_r x2), (3, xm_r x3), (4, xm_i x4)] [] S := by
  unfold wp_L_law_1561 at h1
  refine x_goto (tgt := 2965) C dL_law_1561 (by decide) ?_
  exact kp_L_law_2965 b len xs x1 x2 x3 x4 S kc ks C N hSc hg hZ23 h1
def wp_L_law_1496 (b len : Nat) (xs : Nat → Int32) (x1 : Option Nat) (x2 : Option Nat) (x3 : Option Nat) (x4 : Int32) (S : xm_S) (kc ks : Nat) (g : Int32 → xm_S → Prop) (Z23 : Option Nat → Option Nat → Option Nat → Int32 → xm_S → Nat → Nat → Prop) : Prop :=
  vp_in (x4 + (1 : Int32)) len ∧ vp_in (x4 + (nI 2)) len ∧ kc + 2 ≤ 601024 ∧ ks + 12 ≤ 7293034 ∧ wp_L_locked x1 (xs ((x4 + (1 : Int32))).toNatClampNeg) (xs ((x4 + (nI 2))).toNatClampNeg) x3 S (fun r568 S567 => vp_in (x4 + (1 : Int32)) len ∧ vp_in (x4 + (nI 2)) len ∧ ∃ n571, x2 = some n571 ∧ st_t S567 n571 = some (12, 0) ∧ (kc + 2) ≤ 601024 ∧ (ks + 12) ≤ 7293034 ∧ wp_X12_locked n571 (xs ((x4 + (1 : Int32))).toNatClampNeg) (xs ((x4 + (nI 2))).toNatClampNeg) S567 (fun r577 S576 => ∃ n578, x2 = some n578 ∧ st_t S576 n578 = some (12, 0) ∧ (kc + 2) ≤ 601024 ∧ (ks + 12) ≤ 7293034 ∧ wp_X12_thrown n578 S576 (fun r584 S583 => (r584 = r568 → (¬ r568 = 0 → wp_L_law_1561 b len xs x1 x2 x3 x4 S583 (kc + 2) (ks + 12) g Z23) ∧ (r568 = 0 → ∃ n585, x3 = some n585 ∧ ∃ z588, st_t S583 n585 = some (103, z588) ∧ vp_in (0 : Int32) z588 ∧ ((lg_cmp (st_l S583 n585 ((0 : Int32)).toNatClampNeg) ((r577).toInt64)) = 0 → wp_L_law_1561 b len xs x1 x2 x3 x4 S583 (kc + 2) (ks + 12) g Z23) ∧ (¬ (lg_cmp (st_l S583 n585 ((0 : Int32)).toNatClampNeg) ((r577).toInt64)) = 0 → (kc + 2) ≤ 601024 ∧ (ks + 12) ≤ 7293034 ∧ g (0 : Int32) S583))) ∧ (¬ r584 = r568 → (kc + 2) ≤ 601024 ∧ (ks + 12) ≤ 7293034 ∧ g (0 : Int32) S583))))
set_option maxRecDepth 100000 in
set_option maxHeartbeats 4000000 in
theorem kp_L_law_1496 {K : xm_K} (b len : Nat) (xs : Nat → Int32) (x1 : Option Nat) (x2 : Option Nat) (x3 : Option Nat) (x4 : Int32) (S : xm_S) (kc ks : Nat) {g : Int32 → xm_S → Prop} {Z23 : Option Nat → Option Nat → Option Nat → Int32 → xm_S → Nat → Nat → Prop} (C : xm_Cx K cL_law RL 7 (some .boolean) rm_L_law) (N : xm_Nx K) (hSc : xm_Sc K b len xs) (hg : ∀ v S, g v S → xm_q K (some (xm_i v)) S) (hZ23 : ∀ x1 x2 x3 x4 S kc ks, Z23 x1 x2 x3 x4 S kc ks → xm_W K kc ks 23 [(0, xm_w0 b), (1, xm_r x1), (2, xm_r x2), (3, xm_r x3), (4, xm_i x4)] [] S) (h1 : wp_L_law_1496 b len xs x1 x2 x3 x4 S kc ks g Z23) : xm_W K kc ks 1496 [(0, xm_w0 b), (1, xm_r x1), (2, xm_r x2), (3, xm_r x3), (4, xm_i x4)] [] S := by
  unfold wp_L_law_1496 at h1
  refine x_aload_n C 1 dL_law_1496 rfl rfl ?_
  refine x_aload_n_w C 0 dL_law_1497 rfl rfl ?_
  refine x_iload C 4 dL_law_1498 rfl ?_
  refine x_iconst (v := (1 : Int32)) C dL_law_1500 (by decide) ?_
  refine x_iadd C dL_law_1501 ?_
  obtain ⟨hi563, h1⟩ := h1
  refine x_sald C hSc hi563 dL_law_1502 ?_
  refine x_aload_n_w C 0 dL_law_1503 rfl rfl ?_
  refine x_iload C 4 dL_law_1504 rfl ?_
  refine x_iconst (v := (nI 2)) C dL_law_1506 (by decide) ?_
  refine x_iadd C dL_law_1507 ?_
  obtain ⟨hi564, h1⟩ := h1
  refine x_sald C hSc hi564 dL_law_1508 ?_
  refine x_aload_n C 3 dL_law_1509 rfl rfl ?_
  obtain ⟨hc565, hc566, h1⟩ := h1
  refine x_callSH (rm' := rm_L_locked) (hh := [(0, 10, 13, 21)]) C (kp_L_locked_met h1) gw_1072 gw_932 gw_1073 ⟨by decide, by decide, show Option.map _ (parseMethodDescriptor yL_locked.desc) = some 4 from by decide +kernel⟩ gw_1074 rfl (Nat.le_of_ble_eq_true rfl) ⟨Nat.le_of_ble_eq_true rfl, Nat.le_of_ble_eq_true rfl, hc565, hc566⟩ dL_law_1510 xm_kx (xm_ki (fun r568 S567 h1 => ?_))
  refine x_istore (L' := [(5, xm_i r568), (0, xm_w0 b), (1, xm_r x1), (2, xm_r x2), (3, xm_r x3), (4, xm_i x4)]) C dL_law_1513 (by decide) rfl ?_
  refine x_aload_n C 3 dL_law_1515 rfl rfl ?_
  refine x_aload_n_w C 1 dL_law_1516 rfl rfl ?_
  refine x_iload C 5 dL_law_1517 rfl ?_
  refine x_iconst (v := (1 : Int32)) C dL_law_1519 (by decide) ?_
  refine x_iadd C dL_law_1520 ?_
  obtain ⟨hi569, h1⟩ := h1
  refine x_sald C hSc hi569 dL_law_1521 ?_
  refine x_aload_n_w C 1 dL_law_1522 rfl rfl ?_
  refine x_iload C 5 dL_law_1523 rfl ?_
  refine x_iconst (v := (nI 2)) C dL_law_1525 (by decide) ?_
  refine x_iadd C dL_law_1526 ?_
  obtain ⟨hi570, h1⟩ := h1
  refine x_sald C hSc hi570 dL_law_1527 ?_
  obtain ⟨n571, hr572, h1⟩ := h1
  obtain ⟨ht573, h1⟩ := h1
  obtain ⟨hc574, hc575, h1⟩ := h1
  refine x_callV (rm' := rm_X12_locked) (n := n571) C (kp_X12_locked_met h1) lk_193 gw_1077 gw_1078 xv_12 rfl hr572 ht573 rfl (Nat.le_of_ble_eq_true rfl) ⟨Nat.le_of_ble_eq_true rfl, Nat.le_of_ble_eq_true rfl, hc574, hc575⟩ dL_law_1528 xm_kx (xm_ki (fun r577 S576 h1 => ?_))
  refine x_istore (L' := [(6, xm_i r577), (5, xm_i r568), (0, xm_w0 b), (1, xm_r x1), (2, xm_r x2), (3, xm_r x3), (4, xm_i x4)]) C dL_law_1531 (by decide) rfl ?_
  refine x_aload_n C 4 dL_law_1533 rfl rfl ?_
  obtain ⟨n578, hr579, h1⟩ := h1
  obtain ⟨ht580, h1⟩ := h1
  obtain ⟨hc581, hc582, h1⟩ := h1
  refine x_callV (rm' := rm_X12_thrown) (n := n578) C (kp_X12_thrown_met h1) lk_171 gw_941 gw_942 xv_12 rfl hr579 ht580 rfl (Nat.le_of_ble_eq_true rfl) ⟨Nat.le_of_ble_eq_true rfl, Nat.le_of_ble_eq_true rfl, hc581, hc582⟩ dL_law_1534 xm_kx (xm_ki (fun r584 S583 h1 => ?_))
  refine x_iload C 1 dL_law_1537 rfl ?_
  refine x_icmp_eq (tgt := 1544) C dL_law_1539 (by decide) (fun z9 => ?_) (fun z9 => ?_)
  · have h1 := h1.1 z9
    refine x_iload C 1 dL_law_1544 rfl ?_
    refine x_if_ne (tgt := 1561) C dL_law_1546 (by decide) (fun z9 => ?_) (fun z9 => ?_)
    · have h1 := h1.1 z9
      refine x_keep (L' := [(0, xm_w0 b), (1, xm_r x1), (2, xm_r x2), (3, xm_r x3), (4, xm_i x4)]) C [2, 3, 4, 5, 6] rfl ?_
      exact kp_L_law_1561 b len xs x1 x2 x3 x4 S583 (kc + 2) (ks + 12) C N hSc hg hZ23 h1
    · have h1 := h1.2 z9
      refine x_aload_n C 5 dL_law_1549 rfl rfl ?_
      refine x_iconst (v := (0 : Int32)) C dL_law_1550 (by decide) ?_
      obtain ⟨n585, hr586, h1⟩ := h1
      obtain ⟨z588, ht587, h1⟩ := h1
      obtain ⟨hi589, h1⟩ := h1
      refine x_lald (n := n585) C hr586 ht587 hi589 dL_law_1551 ?_
      refine x_iload C 0 dL_law_1552 rfl ?_
      refine x_i2l C dL_law_1554 ?_
      refine x_lcmp C dL_law_1555 ?_
      refine x_if_eq (tgt := 1561) C dL_law_1556 (by decide) (fun z9 => ?_) (fun z9 => ?_)
      · have h1 := h1.1 z9
        refine x_keep (L' := [(0, xm_w0 b), (1, xm_r x1), (2, xm_r x2), (3, xm_r x3), (4, xm_i x4)]) C [2, 3, 4, 5, 6] rfl ?_
        exact kp_L_law_1561 b len xs x1 x2 x3 x4 S583 (kc + 2) (ks + 12) C N hSc hg hZ23 h1
      · have h1 := h1.2 z9
        refine x_iconst (v := (0 : Int32)) C dL_law_1559 (by decide) ?_
        obtain ⟨hc590, hc591, h1⟩ := h1
        exact x_zret C hc590 hc591 rfl (by decide) dL_law_1560 (hg _ _ h1)
  · have h1 := h1.2 z9
    refine x_iconst (v := (0 : Int32)) C dL_law_1542 (by decide) ?_
    obtain ⟨hc592, hc593, h1⟩ := h1
    exact x_zret C hc592 hc593 rfl (by decide) dL_law_1543 (hg _ _ h1)
def wp_L_law_1624 (b len : Nat) (xs : Nat → Int32) (x1 : Option Nat) (x2 : Option Nat) (x3 : Option Nat) (x4 : Int32) (S : xm_S) (kc ks : Nat) (g : Int32 → xm_S → Prop) (Z23 : Option Nat → Option Nat → Option Nat → Int32 → xm_S → Nat → Nat → Prop) : Prop :=
  wp_L_law_2965 b len xs x1 x2 x3 x4 S kc ks g Z23
set_option maxRecDepth 100000 in
set_option maxHeartbeats 4000000 in
theorem kp_L_law_1624 {K : xm_K} (b len : Nat) (xs : Nat → Int32) (x1 : Option Nat) (x2 : Option Nat) (x3 : Option Nat) (x4 : Int32) (S : xm_S) (kc ks : Nat) {g : Int32 → xm_S → Prop} {Z23 : Option Nat → Option Nat → Option Nat → Int32 → xm_S → Nat → Nat → Prop} (C : xm_Cx K cL_law RL 7 (some .boolean) rm_L_law) (N : xm_Nx K) (hSc : xm_Sc K b len xs) (hg : ∀ v S, g v S → xm_q K (some (xm_i v)) S) (hZ23 : ∀ x1 x2 x3 x4 S kc ks, Z23 x1 x2 x3 x4 S kc ks → xm_W K kc ks 23 [(0, xm_w0 b), (1, xm_r x1), (2, xm_r x2), (3, xm_r x3), (4, xm_i x4)] [] S) (h1 : wp_L_law_1624 b len xs x1 x2 x3 x4 S kc ks g Z23) : xm_W K kc ks 1624 [(0, xm_w0 b), (1, xm_r x1), (2, xm_r x2), (3, xm_r x3), (4, xm_i x4)] [] S := by
  unfold wp_L_law_1624 at h1
  refine x_goto (tgt := 2965) C dL_law_1624 (by decide) ?_
  exact kp_L_law_2965 b len xs x1 x2 x3 x4 S kc ks C N hSc hg hZ23 h1
def wp_L_law_1618 (b len : Nat) (xs : Nat → Int32) (x1 : Option Nat) (x2 : Option Nat) (x3 : Option Nat) (x4 : Int32) (s0 : Int64) (s1 : Int64) (S : xm_S) (kc ks : Nat) (g : Int32 → xm_S → Prop) (Z23 : Option Nat → Option Nat → Option Nat → Int32 → xm_S → Nat → Nat → Prop) : Prop :=
  ((lg_cmp s1 s0) = 0 → wp_L_law_1624 b len xs x1 x2 x3 x4 S kc ks g Z23) ∧ (¬ (lg_cmp s1 s0) = 0 → kc ≤ 601024 ∧ ks ≤ 7293034 ∧ g (0 : Int32) S)
set_option maxRecDepth 100000 in
set_option maxHeartbeats 4000000 in
theorem kp_L_law_1618 {K : xm_K} (b len : Nat) (xs : Nat → Int32) (x1 : Option Nat) (x2 : Option Nat) (x3 : Option Nat) (x4 : Int32) (s0 : Int64) (s1 : Int64) (S : xm_S) (kc ks : Nat) {g : Int32 → xm_S → Prop} {Z23 : Option Nat → Option Nat → Option Nat → Int32 → xm_S → Nat → Nat → Prop} (C : xm_Cx K cL_law RL 7 (some .boolean) rm_L_law) (N : xm_Nx K) (hSc : xm_Sc K b len xs) (hg : ∀ v S, g v S → xm_q K (some (xm_i v)) S) (hZ23 : ∀ x1 x2 x3 x4 S kc ks, Z23 x1 x2 x3 x4 S kc ks → xm_W K kc ks 23 [(0, xm_w0 b), (1, xm_r x1), (2, xm_r x2), (3, xm_r x3), (4, xm_i x4)] [] S) (h1 : wp_L_law_1618 b len xs x1 x2 x3 x4 s0 s1 S kc ks g Z23) : xm_W K kc ks 1618 [(0, xm_w0 b), (1, xm_r x1), (2, xm_r x2), (3, xm_r x3), (4, xm_i x4)] [xm_l s0, xm_l s1] S := by
  unfold wp_L_law_1618 at h1
  refine x_lcmp C dL_law_1618 ?_
  refine x_if_eq (tgt := 1624) C dL_law_1619 (by decide) (fun z9 => ?_) (fun z9 => ?_)
  · have h1 := h1.1 z9
    exact kp_L_law_1624 b len xs x1 x2 x3 x4 S kc ks C N hSc hg hZ23 h1
  · have h1 := h1.2 z9
    refine x_iconst (v := (0 : Int32)) C dL_law_1622 (by decide) ?_
    obtain ⟨hc594, hc595, h1⟩ := h1
    exact x_zret C hc594 hc595 rfl (by decide) dL_law_1623 (hg _ _ h1)
def wp_L_law_1564 (b len : Nat) (xs : Nat → Int32) (x1 : Option Nat) (x2 : Option Nat) (x3 : Option Nat) (x4 : Int32) (S : xm_S) (kc ks : Nat) (g : Int32 → xm_S → Prop) (Z23 : Option Nat → Option Nat → Option Nat → Int32 → xm_S → Nat → Nat → Prop) : Prop :=
  vp_in (x4 + (1 : Int32)) len ∧ kc + 1 ≤ 601024 ∧ ks + 6 ≤ 7293034 ∧ wp_L_holds x1 (xs ((x4 + (1 : Int32))).toNatClampNeg) x3 S (fun r600 S599 => vp_in (x4 + (1 : Int32)) len ∧ ∃ n602, x2 = some n602 ∧ st_t S599 n602 = some (12, 0) ∧ (kc + 1) ≤ 601024 ∧ (ks + 6) ≤ 7293034 ∧ wp_X12_holds n602 (xs ((x4 + (1 : Int32))).toNatClampNeg) S599 (fun r608 S607 => ∃ n609, x2 = some n609 ∧ st_t S607 n609 = some (12, 0) ∧ (kc + 1) ≤ 601024 ∧ (ks + 6) ≤ 7293034 ∧ wp_X12_thrown n609 S607 (fun r615 S614 => (r615 = r600 → (¬ r600 = 0 → wp_L_law_1624 b len xs x1 x2 x3 x4 S614 (kc + 1) (ks + 6) g Z23) ∧ (r600 = 0 → ∃ n616, x3 = some n616 ∧ ∃ z619, st_t S614 n616 = some (103, z619) ∧ vp_in (0 : Int32) z619 ∧ (r608 = 0 → wp_L_law_1618 b len xs x1 x2 x3 x4 (0 : Int64) (st_l S614 n616 ((0 : Int32)).toNatClampNeg) S614 (kc + 1) (ks + 6) g Z23) ∧ (¬ r608 = 0 → wp_L_law_1618 b len xs x1 x2 x3 x4 (1 : Int64) (st_l S614 n616 ((0 : Int32)).toNatClampNeg) S614 (kc + 1) (ks + 6) g Z23))) ∧ (¬ r615 = r600 → (kc + 1) ≤ 601024 ∧ (ks + 6) ≤ 7293034 ∧ g (0 : Int32) S614))))
set_option maxRecDepth 100000 in
set_option maxHeartbeats 4000000 in
theorem kp_L_law_1564 {K : xm_K} (b len : Nat) (xs : Nat → Int32) (x1 : Option Nat) (x2 : Option Nat) (x3 : Option Nat) (x4 : Int32) (S : xm_S) (kc ks : Nat) {g : Int32 → xm_S → Prop} {Z23 : Option Nat → Option Nat → Option Nat → Int32 → xm_S → Nat → Nat → Prop} (C : xm_Cx K cL_law RL 7 (some .boolean) rm_L_law) (N : xm_Nx K) (hSc : xm_Sc K b len xs) (hg : ∀ v S, g v S → xm_q K (some (xm_i v)) S) (hZ23 : ∀ x1 x2 x3 x4 S kc ks, Z23 x1 x2 x3 x4 S kc ks → xm_W K kc ks 23 [(0, xm_w0 b), (1, xm_r x1), (2, xm_r x2), (3, xm_r x3), (4, xm_i x4)] [] S) (h1 : wp_L_law_1564 b len xs x1 x2 x3 x4 S kc ks g Z23) : xm_W K kc ks 1564 [(0, xm_w0 b), (1, xm_r x1), (2, xm_r x2), (3, xm_r x3), (4, xm_i x4)] [] S := by
  unfold wp_L_law_1564 at h1
  refine x_aload_n C 1 dL_law_1564 rfl rfl ?_
  refine x_aload_n_w C 0 dL_law_1565 rfl rfl ?_
  refine x_iload C 4 dL_law_1566 rfl ?_
  refine x_iconst (v := (1 : Int32)) C dL_law_1568 (by decide) ?_
  refine x_iadd C dL_law_1569 ?_
  obtain ⟨hi596, h1⟩ := h1
  refine x_sald C hSc hi596 dL_law_1570 ?_
  refine x_aload_n C 3 dL_law_1571 rfl rfl ?_
  obtain ⟨hc597, hc598, h1⟩ := h1
  refine x_callSH (rm' := rm_L_holds) (hh := [(0, 16, 19, 21)]) C (kp_L_holds_met h1) gw_1079 gw_932 gw_1080 ⟨by decide, by decide, show Option.map _ (parseMethodDescriptor yL_holds.desc) = some 3 from by decide +kernel⟩ gw_1081 rfl (Nat.le_of_ble_eq_true rfl) ⟨Nat.le_of_ble_eq_true rfl, Nat.le_of_ble_eq_true rfl, hc597, hc598⟩ dL_law_1572 xm_kx (xm_ki (fun r600 S599 h1 => ?_))
  refine x_istore (L' := [(5, xm_i r600), (0, xm_w0 b), (1, xm_r x1), (2, xm_r x2), (3, xm_r x3), (4, xm_i x4)]) C dL_law_1575 (by decide) rfl ?_
  refine x_aload_n C 3 dL_law_1577 rfl rfl ?_
  refine x_aload_n_w C 1 dL_law_1578 rfl rfl ?_
  refine x_iload C 5 dL_law_1579 rfl ?_
  refine x_iconst (v := (1 : Int32)) C dL_law_1581 (by decide) ?_
  refine x_iadd C dL_law_1582 ?_
  obtain ⟨hi601, h1⟩ := h1
  refine x_sald C hSc hi601 dL_law_1583 ?_
  obtain ⟨n602, hr603, h1⟩ := h1
  obtain ⟨ht604, h1⟩ := h1
  obtain ⟨hc605, hc606, h1⟩ := h1
  refine x_callV (rm' := rm_X12_holds) (n := n602) C (kp_X12_holds_met h1) lk_194 gw_1084 gw_1085 xv_12 rfl hr603 ht604 rfl (Nat.le_of_ble_eq_true rfl) ⟨Nat.le_of_ble_eq_true rfl, Nat.le_of_ble_eq_true rfl, hc605, hc606⟩ dL_law_1584 xm_kx (xm_ki (fun r608 S607 h1 => ?_))
  refine x_istore (L' := [(6, xm_i r608), (5, xm_i r600), (0, xm_w0 b), (1, xm_r x1), (2, xm_r x2), (3, xm_r x3), (4, xm_i x4)]) C dL_law_1587 (by decide) rfl ?_
  refine x_aload_n C 4 dL_law_1589 rfl rfl ?_
  obtain ⟨n609, hr610, h1⟩ := h1
  obtain ⟨ht611, h1⟩ := h1
  obtain ⟨hc612, hc613, h1⟩ := h1
  refine x_callV (rm' := rm_X12_thrown) (n := n609) C (kp_X12_thrown_met h1) lk_171 gw_941 gw_942 xv_12 rfl hr610 ht611 rfl (Nat.le_of_ble_eq_true rfl) ⟨Nat.le_of_ble_eq_true rfl, Nat.le_of_ble_eq_true rfl, hc612, hc613⟩ dL_law_1590 xm_kx (xm_ki (fun r615 S614 h1 => ?_))
  refine x_iload C 1 dL_law_1593 rfl ?_
  refine x_icmp_eq (tgt := 1600) C dL_law_1595 (by decide) (fun z9 => ?_) (fun z9 => ?_)
  · have h1 := h1.1 z9
    refine x_iload C 1 dL_law_1600 rfl ?_
    refine x_if_ne (tgt := 1624) C dL_law_1602 (by decide) (fun z9 => ?_) (fun z9 => ?_)
    · have h1 := h1.1 z9
      refine x_keep (L' := [(0, xm_w0 b), (1, xm_r x1), (2, xm_r x2), (3, xm_r x3), (4, xm_i x4)]) C [2, 3, 4, 5, 6] rfl ?_
      exact kp_L_law_1624 b len xs x1 x2 x3 x4 S614 (kc + 1) (ks + 6) C N hSc hg hZ23 h1
    · have h1 := h1.2 z9
      refine x_aload_n C 5 dL_law_1605 rfl rfl ?_
      refine x_iconst (v := (0 : Int32)) C dL_law_1606 (by decide) ?_
      obtain ⟨n616, hr617, h1⟩ := h1
      obtain ⟨z619, ht618, h1⟩ := h1
      obtain ⟨hi620, h1⟩ := h1
      refine x_lald (n := n616) C hr617 ht618 hi620 dL_law_1607 ?_
      refine x_iload C 0 dL_law_1608 rfl ?_
      refine x_if_eq (tgt := 1617) C dL_law_1610 (by decide) (fun z9 => ?_) (fun z9 => ?_)
      · have h1 := h1.1 z9
        refine x_lconst (v := (0 : Int64)) C dL_law_1617 (by decide) ?_
        refine x_keep (L' := [(0, xm_w0 b), (1, xm_r x1), (2, xm_r x2), (3, xm_r x3), (4, xm_i x4)]) C [2, 3, 4, 5, 6] rfl ?_
        exact kp_L_law_1618 b len xs x1 x2 x3 x4 (0 : Int64) (st_l S614 n616 ((0 : Int32)).toNatClampNeg) S614 (kc + 1) (ks + 6) C N hSc hg hZ23 h1
      · have h1 := h1.2 z9
        refine x_lconst (v := (1 : Int64)) C dL_law_1613 (by decide) ?_
        refine x_goto (tgt := 1618) C dL_law_1614 (by decide) ?_
        refine x_keep (L' := [(0, xm_w0 b), (1, xm_r x1), (2, xm_r x2), (3, xm_r x3), (4, xm_i x4)]) C [2, 3, 4, 5, 6] rfl ?_
        exact kp_L_law_1618 b len xs x1 x2 x3 x4 (1 : Int64) (st_l S614 n616 ((0 : Int32)).toNatClampNeg) S614 (kc + 1) (ks + 6) C N hSc hg hZ23 h1
  · have h1 := h1.2 z9
    refine x_iconst (v := (0 : Int32)) C dL_law_1598 (by decide) ?_
    obtain ⟨hc621, hc622, h1⟩ := h1
    exact x_zret C hc621 hc622 rfl (by decide) dL_law_1599 (hg _ _ h1)
def wp_L_law_1692 (b len : Nat) (xs : Nat → Int32) (x1 : Option Nat) (x2 : Option Nat) (x3 : Option Nat) (x4 : Int32) (S : xm_S) (kc ks : Nat) (g : Int32 → xm_S → Prop) (Z23 : Option Nat → Option Nat → Option Nat → Int32 → xm_S → Nat → Nat → Prop) : Prop :=
  wp_L_law_2965 b len xs x1 x2 x3 x4 S kc ks g Z23
set_option maxRecDepth 100000 in
set_option maxHeartbeats 4000000 in
theorem kp_L_law_1692 {K : xm_K} (b len : Nat) (xs : Nat → Int32) (x1 : Option Nat) (x2 : Option Nat) (x3 : Option Nat) (x4 : Int32) (S : xm_S) (kc ks : Nat) {g : Int32 → xm_S → Prop} {Z23 : Option Nat → Option Nat → Option Nat → Int32 → xm_S → Nat → Nat → Prop} (C : xm_Cx K cL_law RL 7 (some .boolean) rm_L_law) (N : xm_Nx K) (hSc : xm_Sc K b len xs) (hg : ∀ v S, g v S → xm_q K (some (xm_i v)) S) (hZ23 : ∀ x1 x2 x3 x4 S kc ks, Z23 x1 x2 x3 x4 S kc ks → xm_W K kc ks 23 [(0, xm_w0 b), (1, xm_r x1), (2, xm_r x2), (3, xm_r x3), (4, xm_i x4)] [] S) (h1 : wp_L_law_1692 b len xs x1 x2 x3 x4 S kc ks g Z23) : xm_W K kc ks 1692 [(0, xm_w0 b), (1, xm_r x1), (2, xm_r x2), (3, xm_r x3), (4, xm_i x4)] [] S := by
  unfold wp_L_law_1692 at h1
  refine x_goto (tgt := 2965) C dL_law_1692 (by decide) ?_
  exact kp_L_law_2965 b len xs x1 x2 x3 x4 S kc ks C N hSc hg hZ23 h1
def wp_L_law_1627 (b len : Nat) (xs : Nat → Int32) (x1 : Option Nat) (x2 : Option Nat) (x3 : Option Nat) (x4 : Int32) (S : xm_S) (kc ks : Nat) (g : Int32 → xm_S → Prop) (Z23 : Option Nat → Option Nat → Option Nat → Int32 → xm_S → Nat → Nat → Prop) : Prop :=
  vp_in (x4 + (1 : Int32)) len ∧ vp_in (x4 + (nI 2)) len ∧ kc + 135 ≤ 601024 ∧ ks + 477 ≤ 7293034 ∧ wp_L_advise x1 (xs ((x4 + (1 : Int32))).toNatClampNeg) (xs ((x4 + (nI 2))).toNatClampNeg) x3 S (fun r628 S627 => vp_in (x4 + (1 : Int32)) len ∧ vp_in (x4 + (nI 2)) len ∧ ∃ n631, x2 = some n631 ∧ st_t S627 n631 = some (12, 0) ∧ (kc + 135) ≤ 601024 ∧ (ks + 477) ≤ 7293034 ∧ wp_X12_advise n631 (xs ((x4 + (1 : Int32))).toNatClampNeg) (xs ((x4 + (nI 2))).toNatClampNeg) S627 (fun r637 S636 => ∃ n638, x2 = some n638 ∧ st_t S636 n638 = some (12, 0) ∧ (kc + 135) ≤ 601024 ∧ (ks + 477) ≤ 7293034 ∧ wp_X12_thrown n638 S636 (fun r644 S643 => (r644 = r628 → (¬ r628 = 0 → wp_L_law_1692 b len xs x1 x2 x3 x4 S643 (kc + 135) (ks + 477) g Z23) ∧ (r628 = 0 → ∃ n645, x3 = some n645 ∧ ∃ z648, st_t S643 n645 = some (103, z648) ∧ vp_in (0 : Int32) z648 ∧ ((lg_cmp (st_l S643 n645 ((0 : Int32)).toNatClampNeg) ((r637).toInt64)) = 0 → wp_L_law_1692 b len xs x1 x2 x3 x4 S643 (kc + 135) (ks + 477) g Z23) ∧ (¬ (lg_cmp (st_l S643 n645 ((0 : Int32)).toNatClampNeg) ((r637).toInt64)) = 0 → (kc + 135) ≤ 601024 ∧ (ks + 477) ≤ 7293034 ∧ g (0 : Int32) S643))) ∧ (¬ r644 = r628 → (kc + 135) ≤ 601024 ∧ (ks + 477) ≤ 7293034 ∧ g (0 : Int32) S643))))
set_option maxRecDepth 100000 in
set_option maxHeartbeats 4000000 in
theorem kp_L_law_1627 {K : xm_K} (b len : Nat) (xs : Nat → Int32) (x1 : Option Nat) (x2 : Option Nat) (x3 : Option Nat) (x4 : Int32) (S : xm_S) (kc ks : Nat) {g : Int32 → xm_S → Prop} {Z23 : Option Nat → Option Nat → Option Nat → Int32 → xm_S → Nat → Nat → Prop} (C : xm_Cx K cL_law RL 7 (some .boolean) rm_L_law) (N : xm_Nx K) (hSc : xm_Sc K b len xs) (hg : ∀ v S, g v S → xm_q K (some (xm_i v)) S) (hZ23 : ∀ x1 x2 x3 x4 S kc ks, Z23 x1 x2 x3 x4 S kc ks → xm_W K kc ks 23 [(0, xm_w0 b), (1, xm_r x1), (2, xm_r x2), (3, xm_r x3), (4, xm_i x4)] [] S) (h1 : wp_L_law_1627 b len xs x1 x2 x3 x4 S kc ks g Z23) : xm_W K kc ks 1627 [(0, xm_w0 b), (1, xm_r x1), (2, xm_r x2), (3, xm_r x3), (4, xm_i x4)] [] S := by
  unfold wp_L_law_1627 at h1
  refine x_aload_n C 1 dL_law_1627 rfl rfl ?_
  refine x_aload_n_w C 0 dL_law_1628 rfl rfl ?_
  refine x_iload C 4 dL_law_1629 rfl ?_
  refine x_iconst (v := (1 : Int32)) C dL_law_1631 (by decide) ?_
  refine x_iadd C dL_law_1632 ?_
  obtain ⟨hi623, h1⟩ := h1
  refine x_sald C hSc hi623 dL_law_1633 ?_
  refine x_aload_n_w C 0 dL_law_1634 rfl rfl ?_
  refine x_iload C 4 dL_law_1635 rfl ?_
  refine x_iconst (v := (nI 2)) C dL_law_1637 (by decide) ?_
  refine x_iadd C dL_law_1638 ?_
  obtain ⟨hi624, h1⟩ := h1
  refine x_sald C hSc hi624 dL_law_1639 ?_
  refine x_aload_n C 3 dL_law_1640 rfl rfl ?_
  obtain ⟨hc625, hc626, h1⟩ := h1
  refine x_callSH (rm' := rm_L_advise) (hh := [(0, 10, 13, 21), (0, 10, 17, 13), (0, 10, 21, 15)]) C (kp_L_advise_met h1) gw_1086 gw_932 gw_1087 ⟨by decide, by decide, show Option.map _ (parseMethodDescriptor yL_advise.desc) = some 4 from by decide +kernel⟩ gw_1088 rfl (Nat.le_of_ble_eq_true rfl) ⟨Nat.le_of_ble_eq_true rfl, Nat.le_of_ble_eq_true rfl, hc625, hc626⟩ dL_law_1641 xm_kx (xm_ki (fun r628 S627 h1 => ?_))
  refine x_istore (L' := [(5, xm_i r628), (0, xm_w0 b), (1, xm_r x1), (2, xm_r x2), (3, xm_r x3), (4, xm_i x4)]) C dL_law_1644 (by decide) rfl ?_
  refine x_aload_n C 3 dL_law_1646 rfl rfl ?_
  refine x_aload_n_w C 1 dL_law_1647 rfl rfl ?_
  refine x_iload C 5 dL_law_1648 rfl ?_
  refine x_iconst (v := (1 : Int32)) C dL_law_1650 (by decide) ?_
  refine x_iadd C dL_law_1651 ?_
  obtain ⟨hi629, h1⟩ := h1
  refine x_sald C hSc hi629 dL_law_1652 ?_
  refine x_aload_n_w C 1 dL_law_1653 rfl rfl ?_
  refine x_iload C 5 dL_law_1654 rfl ?_
  refine x_iconst (v := (nI 2)) C dL_law_1656 (by decide) ?_
  refine x_iadd C dL_law_1657 ?_
  obtain ⟨hi630, h1⟩ := h1
  refine x_sald C hSc hi630 dL_law_1658 ?_
  obtain ⟨n631, hr632, h1⟩ := h1
  obtain ⟨ht633, h1⟩ := h1
  obtain ⟨hc634, hc635, h1⟩ := h1
  refine x_callV (rm' := rm_X12_advise) (n := n631) C (kp_X12_advise_met h1) lk_195 gw_1091 gw_1092 xv_12 rfl hr632 ht633 rfl (Nat.le_of_ble_eq_true rfl) ⟨Nat.le_of_ble_eq_true rfl, Nat.le_of_ble_eq_true rfl, hc634, hc635⟩ dL_law_1659 xm_kx (xm_ki (fun r637 S636 h1 => ?_))
  refine x_istore (L' := [(6, xm_i r637), (5, xm_i r628), (0, xm_w0 b), (1, xm_r x1), (2, xm_r x2), (3, xm_r x3), (4, xm_i x4)]) C dL_law_1662 (by decide) rfl ?_
  refine x_aload_n C 4 dL_law_1664 rfl rfl ?_
  obtain ⟨n638, hr639, h1⟩ := h1
  obtain ⟨ht640, h1⟩ := h1
  obtain ⟨hc641, hc642, h1⟩ := h1
  refine x_callV (rm' := rm_X12_thrown) (n := n638) C (kp_X12_thrown_met h1) lk_171 gw_941 gw_942 xv_12 rfl hr639 ht640 rfl (Nat.le_of_ble_eq_true rfl) ⟨Nat.le_of_ble_eq_true rfl, Nat.le_of_ble_eq_true rfl, hc641, hc642⟩ dL_law_1665 xm_kx (xm_ki (fun r644 S643 h1 => ?_))
  refine x_iload C 1 dL_law_1668 rfl ?_
  refine x_icmp_eq (tgt := 1675) C dL_law_1670 (by decide) (fun z9 => ?_) (fun z9 => ?_)
  · have h1 := h1.1 z9
    refine x_iload C 1 dL_law_1675 rfl ?_
    refine x_if_ne (tgt := 1692) C dL_law_1677 (by decide) (fun z9 => ?_) (fun z9 => ?_)
    · have h1 := h1.1 z9
      refine x_keep (L' := [(0, xm_w0 b), (1, xm_r x1), (2, xm_r x2), (3, xm_r x3), (4, xm_i x4)]) C [2, 3, 4, 5, 6] rfl ?_
      exact kp_L_law_1692 b len xs x1 x2 x3 x4 S643 (kc + 135) (ks + 477) C N hSc hg hZ23 h1
    · have h1 := h1.2 z9
      refine x_aload_n C 5 dL_law_1680 rfl rfl ?_
      refine x_iconst (v := (0 : Int32)) C dL_law_1681 (by decide) ?_
      obtain ⟨n645, hr646, h1⟩ := h1
      obtain ⟨z648, ht647, h1⟩ := h1
      obtain ⟨hi649, h1⟩ := h1
      refine x_lald (n := n645) C hr646 ht647 hi649 dL_law_1682 ?_
      refine x_iload C 0 dL_law_1683 rfl ?_
      refine x_i2l C dL_law_1685 ?_
      refine x_lcmp C dL_law_1686 ?_
      refine x_if_eq (tgt := 1692) C dL_law_1687 (by decide) (fun z9 => ?_) (fun z9 => ?_)
      · have h1 := h1.1 z9
        refine x_keep (L' := [(0, xm_w0 b), (1, xm_r x1), (2, xm_r x2), (3, xm_r x3), (4, xm_i x4)]) C [2, 3, 4, 5, 6] rfl ?_
        exact kp_L_law_1692 b len xs x1 x2 x3 x4 S643 (kc + 135) (ks + 477) C N hSc hg hZ23 h1
      · have h1 := h1.2 z9
        refine x_iconst (v := (0 : Int32)) C dL_law_1690 (by decide) ?_
        obtain ⟨hc650, hc651, h1⟩ := h1
        exact x_zret C hc650 hc651 rfl (by decide) dL_law_1691 (hg _ _ h1)
  · have h1 := h1.2 z9
    refine x_iconst (v := (0 : Int32)) C dL_law_1673 (by decide) ?_
    obtain ⟨hc652, hc653, h1⟩ := h1
    exact x_zret C hc652 hc653 rfl (by decide) dL_law_1674 (hg _ _ h1)
def wp_L_law_1760 (b len : Nat) (xs : Nat → Int32) (x1 : Option Nat) (x2 : Option Nat) (x3 : Option Nat) (x4 : Int32) (S : xm_S) (kc ks : Nat) (g : Int32 → xm_S → Prop) (Z23 : Option Nat → Option Nat → Option Nat → Int32 → xm_S → Nat → Nat → Prop) : Prop :=
  wp_L_law_2965 b len xs x1 x2 x3 x4 S kc ks g Z23
set_option maxRecDepth 100000 in
set_option maxHeartbeats 4000000 in
theorem kp_L_law_1760 {K : xm_K} (b len : Nat) (xs : Nat → Int32) (x1 : Option Nat) (x2 : Option Nat) (x3 : Option Nat) (x4 : Int32) (S : xm_S) (kc ks : Nat) {g : Int32 → xm_S → Prop} {Z23 : Option Nat → Option Nat → Option Nat → Int32 → xm_S → Nat → Nat → Prop} (C : xm_Cx K cL_law RL 7 (some .boolean) rm_L_law) (N : xm_Nx K) (hSc : xm_Sc K b len xs) (hg : ∀ v S, g v S → xm_q K (some (xm_i v)) S) (hZ23 : ∀ x1 x2 x3 x4 S kc ks, Z23 x1 x2 x3 x4 S kc ks → xm_W K kc ks 23 [(0, xm_w0 b), (1, xm_r x1), (2, xm_r x2), (3, xm_r x3), (4, xm_i x4)] [] S) (h1 : wp_L_law_1760 b len xs x1 x2 x3 x4 S kc ks g Z23) : xm_W K kc ks 1760 [(0, xm_w0 b), (1, xm_r x1), (2, xm_r x2), (3, xm_r x3), (4, xm_i x4)] [] S := by
  unfold wp_L_law_1760 at h1
  refine x_goto (tgt := 2965) C dL_law_1760 (by decide) ?_
  exact kp_L_law_2965 b len xs x1 x2 x3 x4 S kc ks C N hSc hg hZ23 h1
def wp_L_law_1695 (b len : Nat) (xs : Nat → Int32) (x1 : Option Nat) (x2 : Option Nat) (x3 : Option Nat) (x4 : Int32) (S : xm_S) (kc ks : Nat) (g : Int32 → xm_S → Prop) (Z23 : Option Nat → Option Nat → Option Nat → Int32 → xm_S → Nat → Nat → Prop) : Prop :=
  vp_in (x4 + (1 : Int32)) len ∧ vp_in (x4 + (nI 2)) len ∧ kc + 2 ≤ 601024 ∧ ks + 12 ≤ 7293034 ∧ wp_L_advised x1 (xs ((x4 + (1 : Int32))).toNatClampNeg) (xs ((x4 + (nI 2))).toNatClampNeg) x3 S (fun r659 S658 => vp_in (x4 + (1 : Int32)) len ∧ vp_in (x4 + (nI 2)) len ∧ ∃ n662, x2 = some n662 ∧ st_t S658 n662 = some (12, 0) ∧ (kc + 2) ≤ 601024 ∧ (ks + 12) ≤ 7293034 ∧ wp_X12_advised n662 (xs ((x4 + (1 : Int32))).toNatClampNeg) (xs ((x4 + (nI 2))).toNatClampNeg) S658 (fun r668 S667 => ∃ n669, x2 = some n669 ∧ st_t S667 n669 = some (12, 0) ∧ (kc + 2) ≤ 601024 ∧ (ks + 12) ≤ 7293034 ∧ wp_X12_thrown n669 S667 (fun r675 S674 => (r675 = r659 → (¬ r659 = 0 → wp_L_law_1760 b len xs x1 x2 x3 x4 S674 (kc + 2) (ks + 12) g Z23) ∧ (r659 = 0 → ∃ n676, x3 = some n676 ∧ ∃ z679, st_t S674 n676 = some (103, z679) ∧ vp_in (0 : Int32) z679 ∧ ((lg_cmp (st_l S674 n676 ((0 : Int32)).toNatClampNeg) ((r668).toInt64)) = 0 → wp_L_law_1760 b len xs x1 x2 x3 x4 S674 (kc + 2) (ks + 12) g Z23) ∧ (¬ (lg_cmp (st_l S674 n676 ((0 : Int32)).toNatClampNeg) ((r668).toInt64)) = 0 → (kc + 2) ≤ 601024 ∧ (ks + 12) ≤ 7293034 ∧ g (0 : Int32) S674))) ∧ (¬ r675 = r659 → (kc + 2) ≤ 601024 ∧ (ks + 12) ≤ 7293034 ∧ g (0 : Int32) S674))))
set_option maxRecDepth 100000 in
set_option maxHeartbeats 4000000 in
theorem kp_L_law_1695 {K : xm_K} (b len : Nat) (xs : Nat → Int32) (x1 : Option Nat) (x2 : Option Nat) (x3 : Option Nat) (x4 : Int32) (S : xm_S) (kc ks : Nat) {g : Int32 → xm_S → Prop} {Z23 : Option Nat → Option Nat → Option Nat → Int32 → xm_S → Nat → Nat → Prop} (C : xm_Cx K cL_law RL 7 (some .boolean) rm_L_law) (N : xm_Nx K) (hSc : xm_Sc K b len xs) (hg : ∀ v S, g v S → xm_q K (some (xm_i v)) S) (hZ23 : ∀ x1 x2 x3 x4 S kc ks, Z23 x1 x2 x3 x4 S kc ks → xm_W K kc ks 23 [(0, xm_w0 b), (1, xm_r x1), (2, xm_r x2), (3, xm_r x3), (4, xm_i x4)] [] S) (h1 : wp_L_law_1695 b len xs x1 x2 x3 x4 S kc ks g Z23) : xm_W K kc ks 1695 [(0, xm_w0 b), (1, xm_r x1), (2, xm_r x2), (3, xm_r x3), (4, xm_i x4)] [] S := by
  unfold wp_L_law_1695 at h1
  refine x_aload_n C 1 dL_law_1695 rfl rfl ?_
  refine x_aload_n_w C 0 dL_law_1696 rfl rfl ?_
  refine x_iload C 4 dL_law_1697 rfl ?_
  refine x_iconst (v := (1 : Int32)) C dL_law_1699 (by decide) ?_
  refine x_iadd C dL_law_1700 ?_
  obtain ⟨hi654, h1⟩ := h1
  refine x_sald C hSc hi654 dL_law_1701 ?_
  refine x_aload_n_w C 0 dL_law_1702 rfl rfl ?_
  refine x_iload C 4 dL_law_1703 rfl ?_
  refine x_iconst (v := (nI 2)) C dL_law_1705 (by decide) ?_
  refine x_iadd C dL_law_1706 ?_
  obtain ⟨hi655, h1⟩ := h1
  refine x_sald C hSc hi655 dL_law_1707 ?_
  refine x_aload_n C 3 dL_law_1708 rfl rfl ?_
  obtain ⟨hc656, hc657, h1⟩ := h1
  refine x_callSH (rm' := rm_L_advised) (hh := [(0, 10, 13, 21), (0, 10, 17, 13)]) C (kp_L_advised_met h1) gw_1093 gw_932 gw_1094 ⟨by decide, by decide, show Option.map _ (parseMethodDescriptor yL_advised.desc) = some 4 from by decide +kernel⟩ gw_1095 rfl (Nat.le_of_ble_eq_true rfl) ⟨Nat.le_of_ble_eq_true rfl, Nat.le_of_ble_eq_true rfl, hc656, hc657⟩ dL_law_1709 xm_kx (xm_ki (fun r659 S658 h1 => ?_))
  refine x_istore (L' := [(5, xm_i r659), (0, xm_w0 b), (1, xm_r x1), (2, xm_r x2), (3, xm_r x3), (4, xm_i x4)]) C dL_law_1712 (by decide) rfl ?_
  refine x_aload_n C 3 dL_law_1714 rfl rfl ?_
  refine x_aload_n_w C 1 dL_law_1715 rfl rfl ?_
  refine x_iload C 5 dL_law_1716 rfl ?_
  refine x_iconst (v := (1 : Int32)) C dL_law_1718 (by decide) ?_
  refine x_iadd C dL_law_1719 ?_
  obtain ⟨hi660, h1⟩ := h1
  refine x_sald C hSc hi660 dL_law_1720 ?_
  refine x_aload_n_w C 1 dL_law_1721 rfl rfl ?_
  refine x_iload C 5 dL_law_1722 rfl ?_
  refine x_iconst (v := (nI 2)) C dL_law_1724 (by decide) ?_
  refine x_iadd C dL_law_1725 ?_
  obtain ⟨hi661, h1⟩ := h1
  refine x_sald C hSc hi661 dL_law_1726 ?_
  obtain ⟨n662, hr663, h1⟩ := h1
  obtain ⟨ht664, h1⟩ := h1
  obtain ⟨hc665, hc666, h1⟩ := h1
  refine x_callV (rm' := rm_X12_advised) (n := n662) C (kp_X12_advised_met h1) lk_196 gw_1098 gw_1099 xv_12 rfl hr663 ht664 rfl (Nat.le_of_ble_eq_true rfl) ⟨Nat.le_of_ble_eq_true rfl, Nat.le_of_ble_eq_true rfl, hc665, hc666⟩ dL_law_1727 xm_kx (xm_ki (fun r668 S667 h1 => ?_))
  refine x_istore (L' := [(6, xm_i r668), (5, xm_i r659), (0, xm_w0 b), (1, xm_r x1), (2, xm_r x2), (3, xm_r x3), (4, xm_i x4)]) C dL_law_1730 (by decide) rfl ?_
  refine x_aload_n C 4 dL_law_1732 rfl rfl ?_
  obtain ⟨n669, hr670, h1⟩ := h1
  obtain ⟨ht671, h1⟩ := h1
  obtain ⟨hc672, hc673, h1⟩ := h1
  refine x_callV (rm' := rm_X12_thrown) (n := n669) C (kp_X12_thrown_met h1) lk_171 gw_941 gw_942 xv_12 rfl hr670 ht671 rfl (Nat.le_of_ble_eq_true rfl) ⟨Nat.le_of_ble_eq_true rfl, Nat.le_of_ble_eq_true rfl, hc672, hc673⟩ dL_law_1733 xm_kx (xm_ki (fun r675 S674 h1 => ?_))
  refine x_iload C 1 dL_law_1736 rfl ?_
  refine x_icmp_eq (tgt := 1743) C dL_law_1738 (by decide) (fun z9 => ?_) (fun z9 => ?_)
  · have h1 := h1.1 z9
    refine x_iload C 1 dL_law_1743 rfl ?_
    refine x_if_ne (tgt := 1760) C dL_law_1745 (by decide) (fun z9 => ?_) (fun z9 => ?_)
    · have h1 := h1.1 z9
      refine x_keep (L' := [(0, xm_w0 b), (1, xm_r x1), (2, xm_r x2), (3, xm_r x3), (4, xm_i x4)]) C [2, 3, 4, 5, 6] rfl ?_
      exact kp_L_law_1760 b len xs x1 x2 x3 x4 S674 (kc + 2) (ks + 12) C N hSc hg hZ23 h1
    · have h1 := h1.2 z9
      refine x_aload_n C 5 dL_law_1748 rfl rfl ?_
      refine x_iconst (v := (0 : Int32)) C dL_law_1749 (by decide) ?_
      obtain ⟨n676, hr677, h1⟩ := h1
      obtain ⟨z679, ht678, h1⟩ := h1
      obtain ⟨hi680, h1⟩ := h1
      refine x_lald (n := n676) C hr677 ht678 hi680 dL_law_1750 ?_
      refine x_iload C 0 dL_law_1751 rfl ?_
      refine x_i2l C dL_law_1753 ?_
      refine x_lcmp C dL_law_1754 ?_
      refine x_if_eq (tgt := 1760) C dL_law_1755 (by decide) (fun z9 => ?_) (fun z9 => ?_)
      · have h1 := h1.1 z9
        refine x_keep (L' := [(0, xm_w0 b), (1, xm_r x1), (2, xm_r x2), (3, xm_r x3), (4, xm_i x4)]) C [2, 3, 4, 5, 6] rfl ?_
        exact kp_L_law_1760 b len xs x1 x2 x3 x4 S674 (kc + 2) (ks + 12) C N hSc hg hZ23 h1
      · have h1 := h1.2 z9
        refine x_iconst (v := (0 : Int32)) C dL_law_1758 (by decide) ?_
        obtain ⟨hc681, hc682, h1⟩ := h1
        exact x_zret C hc681 hc682 rfl (by decide) dL_law_1759 (hg _ _ h1)
  · have h1 := h1.2 z9
    refine x_iconst (v := (0 : Int32)) C dL_law_1741 (by decide) ?_
    obtain ⟨hc683, hc684, h1⟩ := h1
    exact x_zret C hc683 hc684 rfl (by decide) dL_law_1742 (hg _ _ h1)
def wp_L_law_1816 (b len : Nat) (xs : Nat → Int32) (x1 : Option Nat) (x2 : Option Nat) (x3 : Option Nat) (x4 : Int32) (S : xm_S) (kc ks : Nat) (g : Int32 → xm_S → Prop) (Z23 : Option Nat → Option Nat → Option Nat → Int32 → xm_S → Nat → Nat → Prop) : Prop :=
  wp_L_law_2965 b len xs x1 x2 x3 x4 S kc ks g Z23
set_option maxRecDepth 100000 in
set_option maxHeartbeats 4000000 in
theorem kp_L_law_1816 {K : xm_K} (b len : Nat) (xs : Nat → Int32) (x1 : Option Nat) (x2 : Option Nat) (x3 : Option Nat) (x4 : Int32) (S : xm_S) (kc ks : Nat) {g : Int32 → xm_S → Prop} {Z23 : Option Nat → Option Nat → Option Nat → Int32 → xm_S → Nat → Nat → Prop} (C : xm_Cx K cL_law RL 7 (some .boolean) rm_L_law) (N : xm_Nx K) (hSc : xm_Sc K b len xs) (hg : ∀ v S, g v S → xm_q K (some (xm_i v)) S) (hZ23 : ∀ x1 x2 x3 x4 S kc ks, Z23 x1 x2 x3 x4 S kc ks → xm_W K kc ks 23 [(0, xm_w0 b), (1, xm_r x1), (2, xm_r x2), (3, xm_r x3), (4, xm_i x4)] [] S) (h1 : wp_L_law_1816 b len xs x1 x2 x3 x4 S kc ks g Z23) : xm_W K kc ks 1816 [(0, xm_w0 b), (1, xm_r x1), (2, xm_r x2), (3, xm_r x3), (4, xm_i x4)] [] S := by
  unfold wp_L_law_1816 at h1
  refine x_goto (tgt := 2965) C dL_law_1816 (by decide) ?_
  exact kp_L_law_2965 b len xs x1 x2 x3 x4 S kc ks C N hSc hg hZ23 h1
def wp_L_law_1763 (b len : Nat) (xs : Nat → Int32) (x1 : Option Nat) (x2 : Option Nat) (x3 : Option Nat) (x4 : Int32) (S : xm_S) (kc ks : Nat) (g : Int32 → xm_S → Prop) (Z23 : Option Nat → Option Nat → Option Nat → Int32 → xm_S → Nat → Nat → Prop) : Prop :=
  vp_in (x4 + (1 : Int32)) len ∧ kc + 2 ≤ 601024 ∧ ks + 12 ≤ 7293034 ∧ wp_L_pass x1 (xs ((x4 + (1 : Int32))).toNatClampNeg) x3 S (fun r689 S688 => vp_in (x4 + (1 : Int32)) len ∧ ∃ n691, x2 = some n691 ∧ st_t S688 n691 = some (12, 0) ∧ (kc + 2) ≤ 601024 ∧ (ks + 12) ≤ 7293034 ∧ wp_X12_pass n691 (xs ((x4 + (1 : Int32))).toNatClampNeg) S688 (fun r697 S696 => ∃ n698, x2 = some n698 ∧ st_t S696 n698 = some (12, 0) ∧ (kc + 2) ≤ 601024 ∧ (ks + 12) ≤ 7293034 ∧ wp_X12_thrown n698 S696 (fun r704 S703 => (r704 = r689 → (¬ r689 = 0 → wp_L_law_1816 b len xs x1 x2 x3 x4 S703 (kc + 2) (ks + 12) g Z23) ∧ (r689 = 0 → ∃ n705, x3 = some n705 ∧ ∃ z708, st_t S703 n705 = some (103, z708) ∧ vp_in (0 : Int32) z708 ∧ ((lg_cmp (st_l S703 n705 ((0 : Int32)).toNatClampNeg) ((r697).toInt64)) = 0 → wp_L_law_1816 b len xs x1 x2 x3 x4 S703 (kc + 2) (ks + 12) g Z23) ∧ (¬ (lg_cmp (st_l S703 n705 ((0 : Int32)).toNatClampNeg) ((r697).toInt64)) = 0 → (kc + 2) ≤ 601024 ∧ (ks + 12) ≤ 7293034 ∧ g (0 : Int32) S703))) ∧ (¬ r704 = r689 → (kc + 2) ≤ 601024 ∧ (ks + 12) ≤ 7293034 ∧ g (0 : Int32) S703))))
set_option maxRecDepth 100000 in
set_option maxHeartbeats 4000000 in
theorem kp_L_law_1763 {K : xm_K} (b len : Nat) (xs : Nat → Int32) (x1 : Option Nat) (x2 : Option Nat) (x3 : Option Nat) (x4 : Int32) (S : xm_S) (kc ks : Nat) {g : Int32 → xm_S → Prop} {Z23 : Option Nat → Option Nat → Option Nat → Int32 → xm_S → Nat → Nat → Prop} (C : xm_Cx K cL_law RL 7 (some .boolean) rm_L_law) (N : xm_Nx K) (hSc : xm_Sc K b len xs) (hg : ∀ v S, g v S → xm_q K (some (xm_i v)) S) (hZ23 : ∀ x1 x2 x3 x4 S kc ks, Z23 x1 x2 x3 x4 S kc ks → xm_W K kc ks 23 [(0, xm_w0 b), (1, xm_r x1), (2, xm_r x2), (3, xm_r x3), (4, xm_i x4)] [] S) (h1 : wp_L_law_1763 b len xs x1 x2 x3 x4 S kc ks g Z23) : xm_W K kc ks 1763 [(0, xm_w0 b), (1, xm_r x1), (2, xm_r x2), (3, xm_r x3), (4, xm_i x4)] [] S := by
  unfold wp_L_law_1763 at h1
  refine x_aload_n C 1 dL_law_1763 rfl rfl ?_
  refine x_aload_n_w C 0 dL_law_1764 rfl rfl ?_
  refine x_iload C 4 dL_law_1765 rfl ?_
  refine x_iconst (v := (1 : Int32)) C dL_law_1767 (by decide) ?_
  refine x_iadd C dL_law_1768 ?_
  obtain ⟨hi685, h1⟩ := h1
  refine x_sald C hSc hi685 dL_law_1769 ?_
  refine x_aload_n C 3 dL_law_1770 rfl rfl ?_
  obtain ⟨hc686, hc687, h1⟩ := h1
  refine x_callSH (rm' := rm_L_pass) (hh := [(0, 9, 12, 13), (0, 9, 15, 15)]) C (kp_L_pass_met h1) gw_1100 gw_932 gw_1101 ⟨by decide, by decide, show Option.map _ (parseMethodDescriptor yL_pass.desc) = some 3 from by decide +kernel⟩ gw_1102 rfl (Nat.le_of_ble_eq_true rfl) ⟨Nat.le_of_ble_eq_true rfl, Nat.le_of_ble_eq_true rfl, hc686, hc687⟩ dL_law_1771 xm_kx (xm_ki (fun r689 S688 h1 => ?_))
  refine x_istore (L' := [(5, xm_i r689), (0, xm_w0 b), (1, xm_r x1), (2, xm_r x2), (3, xm_r x3), (4, xm_i x4)]) C dL_law_1774 (by decide) rfl ?_
  refine x_aload_n C 3 dL_law_1776 rfl rfl ?_
  refine x_aload_n_w C 1 dL_law_1777 rfl rfl ?_
  refine x_iload C 5 dL_law_1778 rfl ?_
  refine x_iconst (v := (1 : Int32)) C dL_law_1780 (by decide) ?_
  refine x_iadd C dL_law_1781 ?_
  obtain ⟨hi690, h1⟩ := h1
  refine x_sald C hSc hi690 dL_law_1782 ?_
  obtain ⟨n691, hr692, h1⟩ := h1
  obtain ⟨ht693, h1⟩ := h1
  obtain ⟨hc694, hc695, h1⟩ := h1
  refine x_callV (rm' := rm_X12_pass) (n := n691) C (kp_X12_pass_met h1) lk_197 gw_1105 gw_1106 xv_12 rfl hr692 ht693 rfl (Nat.le_of_ble_eq_true rfl) ⟨Nat.le_of_ble_eq_true rfl, Nat.le_of_ble_eq_true rfl, hc694, hc695⟩ dL_law_1783 xm_kx (xm_ki (fun r697 S696 h1 => ?_))
  refine x_istore (L' := [(6, xm_i r697), (5, xm_i r689), (0, xm_w0 b), (1, xm_r x1), (2, xm_r x2), (3, xm_r x3), (4, xm_i x4)]) C dL_law_1786 (by decide) rfl ?_
  refine x_aload_n C 4 dL_law_1788 rfl rfl ?_
  obtain ⟨n698, hr699, h1⟩ := h1
  obtain ⟨ht700, h1⟩ := h1
  obtain ⟨hc701, hc702, h1⟩ := h1
  refine x_callV (rm' := rm_X12_thrown) (n := n698) C (kp_X12_thrown_met h1) lk_171 gw_941 gw_942 xv_12 rfl hr699 ht700 rfl (Nat.le_of_ble_eq_true rfl) ⟨Nat.le_of_ble_eq_true rfl, Nat.le_of_ble_eq_true rfl, hc701, hc702⟩ dL_law_1789 xm_kx (xm_ki (fun r704 S703 h1 => ?_))
  refine x_iload C 1 dL_law_1792 rfl ?_
  refine x_icmp_eq (tgt := 1799) C dL_law_1794 (by decide) (fun z9 => ?_) (fun z9 => ?_)
  · have h1 := h1.1 z9
    refine x_iload C 1 dL_law_1799 rfl ?_
    refine x_if_ne (tgt := 1816) C dL_law_1801 (by decide) (fun z9 => ?_) (fun z9 => ?_)
    · have h1 := h1.1 z9
      refine x_keep (L' := [(0, xm_w0 b), (1, xm_r x1), (2, xm_r x2), (3, xm_r x3), (4, xm_i x4)]) C [2, 3, 4, 5, 6] rfl ?_
      exact kp_L_law_1816 b len xs x1 x2 x3 x4 S703 (kc + 2) (ks + 12) C N hSc hg hZ23 h1
    · have h1 := h1.2 z9
      refine x_aload_n C 5 dL_law_1804 rfl rfl ?_
      refine x_iconst (v := (0 : Int32)) C dL_law_1805 (by decide) ?_
      obtain ⟨n705, hr706, h1⟩ := h1
      obtain ⟨z708, ht707, h1⟩ := h1
      obtain ⟨hi709, h1⟩ := h1
      refine x_lald (n := n705) C hr706 ht707 hi709 dL_law_1806 ?_
      refine x_iload C 0 dL_law_1807 rfl ?_
      refine x_i2l C dL_law_1809 ?_
      refine x_lcmp C dL_law_1810 ?_
      refine x_if_eq (tgt := 1816) C dL_law_1811 (by decide) (fun z9 => ?_) (fun z9 => ?_)
      · have h1 := h1.1 z9
        refine x_keep (L' := [(0, xm_w0 b), (1, xm_r x1), (2, xm_r x2), (3, xm_r x3), (4, xm_i x4)]) C [2, 3, 4, 5, 6] rfl ?_
        exact kp_L_law_1816 b len xs x1 x2 x3 x4 S703 (kc + 2) (ks + 12) C N hSc hg hZ23 h1
      · have h1 := h1.2 z9
        refine x_iconst (v := (0 : Int32)) C dL_law_1814 (by decide) ?_
        obtain ⟨hc710, hc711, h1⟩ := h1
        exact x_zret C hc710 hc711 rfl (by decide) dL_law_1815 (hg _ _ h1)
  · have h1 := h1.2 z9
    refine x_iconst (v := (0 : Int32)) C dL_law_1797 (by decide) ?_
    obtain ⟨hc712, hc713, h1⟩ := h1
    exact x_zret C hc712 hc713 rfl (by decide) dL_law_1798 (hg _ _ h1)
def wp_L_law_1903 (b len : Nat) (xs : Nat → Int32) (x1 : Option Nat) (x2 : Option Nat) (x3 : Option Nat) (x4 : Int32) (S : xm_S) (kc ks : Nat) (g : Int32 → xm_S → Prop) (Z23 : Option Nat → Option Nat → Option Nat → Int32 → xm_S → Nat → Nat → Prop) : Prop :=
  wp_L_law_2965 b len xs x1 x2 x3 x4 S kc ks g Z23
set_option maxRecDepth 100000 in
set_option maxHeartbeats 4000000 in
theorem kp_L_law_1903 {K : xm_K} (b len : Nat) (xs : Nat → Int32) (x1 : Option Nat) (x2 : Option Nat) (x3 : Option Nat) (x4 : Int32) (S : xm_S) (kc ks : Nat) {g : Int32 → xm_S → Prop} {Z23 : Option Nat → Option Nat → Option Nat → Int32 → xm_S → Nat → Nat → Prop} (C : xm_Cx K cL_law RL 7 (some .boolean) rm_L_law) (N : xm_Nx K) (hSc : xm_Sc K b len xs) (hg : ∀ v S, g v S → xm_q K (some (xm_i v)) S) (hZ23 : ∀ x1 x2 x3 x4 S kc ks, Z23 x1 x2 x3 x4 S kc ks → xm_W K kc ks 23 [(0, xm_w0 b), (1, xm_r x1), (2, xm_r x2), (3, xm_r x3), (4, xm_i x4)] [] S) (h1 : wp_L_law_1903 b len xs x1 x2 x3 x4 S kc ks g Z23) : xm_W K kc ks 1903 [(0, xm_w0 b), (1, xm_r x1), (2, xm_r x2), (3, xm_r x3), (4, xm_i x4)] [] S := by
  unfold wp_L_law_1903 at h1
  refine x_goto (tgt := 2965) C dL_law_1903 (by decide) ?_
  exact kp_L_law_2965 b len xs x1 x2 x3 x4 S kc ks C N hSc hg hZ23 h1
def wp_L_law_1897 (b len : Nat) (xs : Nat → Int32) (x1 : Option Nat) (x2 : Option Nat) (x3 : Option Nat) (x4 : Int32) (s0 : Int64) (s1 : Int64) (S : xm_S) (kc ks : Nat) (g : Int32 → xm_S → Prop) (Z23 : Option Nat → Option Nat → Option Nat → Int32 → xm_S → Nat → Nat → Prop) : Prop :=
  ((lg_cmp s1 s0) = 0 → wp_L_law_1903 b len xs x1 x2 x3 x4 S kc ks g Z23) ∧ (¬ (lg_cmp s1 s0) = 0 → kc ≤ 601024 ∧ ks ≤ 7293034 ∧ g (0 : Int32) S)
set_option maxRecDepth 100000 in
set_option maxHeartbeats 4000000 in
theorem kp_L_law_1897 {K : xm_K} (b len : Nat) (xs : Nat → Int32) (x1 : Option Nat) (x2 : Option Nat) (x3 : Option Nat) (x4 : Int32) (s0 : Int64) (s1 : Int64) (S : xm_S) (kc ks : Nat) {g : Int32 → xm_S → Prop} {Z23 : Option Nat → Option Nat → Option Nat → Int32 → xm_S → Nat → Nat → Prop} (C : xm_Cx K cL_law RL 7 (some .boolean) rm_L_law) (N : xm_Nx K) (hSc : xm_Sc K b len xs) (hg : ∀ v S, g v S → xm_q K (some (xm_i v)) S) (hZ23 : ∀ x1 x2 x3 x4 S kc ks, Z23 x1 x2 x3 x4 S kc ks → xm_W K kc ks 23 [(0, xm_w0 b), (1, xm_r x1), (2, xm_r x2), (3, xm_r x3), (4, xm_i x4)] [] S) (h1 : wp_L_law_1897 b len xs x1 x2 x3 x4 s0 s1 S kc ks g Z23) : xm_W K kc ks 1897 [(0, xm_w0 b), (1, xm_r x1), (2, xm_r x2), (3, xm_r x3), (4, xm_i x4)] [xm_l s0, xm_l s1] S := by
  unfold wp_L_law_1897 at h1
  refine x_lcmp C dL_law_1897 ?_
  refine x_if_eq (tgt := 1903) C dL_law_1898 (by decide) (fun z9 => ?_) (fun z9 => ?_)
  · have h1 := h1.1 z9
    exact kp_L_law_1903 b len xs x1 x2 x3 x4 S kc ks C N hSc hg hZ23 h1
  · have h1 := h1.2 z9
    refine x_iconst (v := (0 : Int32)) C dL_law_1901 (by decide) ?_
    obtain ⟨hc714, hc715, h1⟩ := h1
    exact x_zret C hc714 hc715 rfl (by decide) dL_law_1902 (hg _ _ h1)
def wp_L_law_1819 (b len : Nat) (xs : Nat → Int32) (x1 : Option Nat) (x2 : Option Nat) (x3 : Option Nat) (x4 : Int32) (S : xm_S) (kc ks : Nat) (g : Int32 → xm_S → Prop) (Z23 : Option Nat → Option Nat → Option Nat → Int32 → xm_S → Nat → Nat → Prop) : Prop :=
  vp_in (x4 + (1 : Int32)) len ∧ vp_in (x4 + (nI 2)) len ∧ vp_in (x4 + (nI 3)) len ∧ kc + 3 ≤ 601024 ∧ ks + 18 ≤ 7293034 ∧ wp_L_role x1 (xs ((x4 + (1 : Int32))).toNatClampNeg) (xs ((x4 + (nI 2))).toNatClampNeg) (xs ((x4 + (nI 3))).toNatClampNeg) x3 S (fun r722 S721 => vp_in (x4 + (1 : Int32)) len ∧ vp_in (x4 + (nI 2)) len ∧ vp_in (x4 + (nI 3)) len ∧ ∃ n726, x2 = some n726 ∧ st_t S721 n726 = some (12, 0) ∧ (kc + 3) ≤ 601024 ∧ (ks + 18) ≤ 7293034 ∧ wp_X12_role n726 (xs ((x4 + (1 : Int32))).toNatClampNeg) (xs ((x4 + (nI 2))).toNatClampNeg) (xs ((x4 + (nI 3))).toNatClampNeg) S721 (fun r732 S731 => ∃ n733, x2 = some n733 ∧ st_t S731 n733 = some (12, 0) ∧ (kc + 3) ≤ 601024 ∧ (ks + 18) ≤ 7293034 ∧ wp_X12_thrown n733 S731 (fun r739 S738 => (r739 = r722 → (¬ r722 = 0 → wp_L_law_1903 b len xs x1 x2 x3 x4 S738 (kc + 3) (ks + 18) g Z23) ∧ (r722 = 0 → ∃ n740, x3 = some n740 ∧ ∃ z743, st_t S738 n740 = some (103, z743) ∧ vp_in (0 : Int32) z743 ∧ (r732 = 0 → wp_L_law_1897 b len xs x1 x2 x3 x4 (0 : Int64) (st_l S738 n740 ((0 : Int32)).toNatClampNeg) S738 (kc + 3) (ks + 18) g Z23) ∧ (¬ r732 = 0 → wp_L_law_1897 b len xs x1 x2 x3 x4 (1 : Int64) (st_l S738 n740 ((0 : Int32)).toNatClampNeg) S738 (kc + 3) (ks + 18) g Z23))) ∧ (¬ r739 = r722 → (kc + 3) ≤ 601024 ∧ (ks + 18) ≤ 7293034 ∧ g (0 : Int32) S738))))
set_option maxRecDepth 100000 in
set_option maxHeartbeats 4000000 in
theorem kp_L_law_1819 {K : xm_K} (b len : Nat) (xs : Nat → Int32) (x1 : Option Nat) (x2 : Option Nat) (x3 : Option Nat) (x4 : Int32) (S : xm_S) (kc ks : Nat) {g : Int32 → xm_S → Prop} {Z23 : Option Nat → Option Nat → Option Nat → Int32 → xm_S → Nat → Nat → Prop} (C : xm_Cx K cL_law RL 7 (some .boolean) rm_L_law) (N : xm_Nx K) (hSc : xm_Sc K b len xs) (hg : ∀ v S, g v S → xm_q K (some (xm_i v)) S) (hZ23 : ∀ x1 x2 x3 x4 S kc ks, Z23 x1 x2 x3 x4 S kc ks → xm_W K kc ks 23 [(0, xm_w0 b), (1, xm_r x1), (2, xm_r x2), (3, xm_r x3), (4, xm_i x4)] [] S) (h1 : wp_L_law_1819 b len xs x1 x2 x3 x4 S kc ks g Z23) : xm_W K kc ks 1819 [(0, xm_w0 b), (1, xm_r x1), (2, xm_r x2), (3, xm_r x3), (4, xm_i x4)] [] S := by
  unfold wp_L_law_1819 at h1
  refine x_aload_n C 1 dL_law_1819 rfl rfl ?_
  refine x_aload_n_w C 0 dL_law_1820 rfl rfl ?_
  refine x_iload C 4 dL_law_1821 rfl ?_
  refine x_iconst (v := (1 : Int32)) C dL_law_1823 (by decide) ?_
  refine x_iadd C dL_law_1824 ?_
  obtain ⟨hi716, h1⟩ := h1
  refine x_sald C hSc hi716 dL_law_1825 ?_
  refine x_aload_n_w C 0 dL_law_1826 rfl rfl ?_
  refine x_iload C 4 dL_law_1827 rfl ?_
  refine x_iconst (v := (nI 2)) C dL_law_1829 (by decide) ?_
  refine x_iadd C dL_law_1830 ?_
  obtain ⟨hi717, h1⟩ := h1
  refine x_sald C hSc hi717 dL_law_1831 ?_
  refine x_aload_n_w C 0 dL_law_1832 rfl rfl ?_
  refine x_iload C 4 dL_law_1833 rfl ?_
  refine x_iconst (v := (nI 3)) C dL_law_1835 (by decide) ?_
  refine x_iadd C dL_law_1836 ?_
  obtain ⟨hi718, h1⟩ := h1
  refine x_sald C hSc hi718 dL_law_1837 ?_
  refine x_aload_n C 3 dL_law_1838 rfl rfl ?_
  obtain ⟨hc719, hc720, h1⟩ := h1
  refine x_callSH (rm' := rm_L_role) (hh := [(0, 19, 22, 13)]) C (kp_L_role_met h1) gw_1107 gw_932 gw_1108 ⟨by decide, by decide, show Option.map _ (parseMethodDescriptor yL_role.desc) = some 5 from by decide +kernel⟩ gw_1109 rfl (Nat.le_of_ble_eq_true rfl) ⟨Nat.le_of_ble_eq_true rfl, Nat.le_of_ble_eq_true rfl, hc719, hc720⟩ dL_law_1839 xm_kx (xm_ki (fun r722 S721 h1 => ?_))
  refine x_istore (L' := [(5, xm_i r722), (0, xm_w0 b), (1, xm_r x1), (2, xm_r x2), (3, xm_r x3), (4, xm_i x4)]) C dL_law_1842 (by decide) rfl ?_
  refine x_aload_n C 3 dL_law_1844 rfl rfl ?_
  refine x_aload_n_w C 1 dL_law_1845 rfl rfl ?_
  refine x_iload C 5 dL_law_1846 rfl ?_
  refine x_iconst (v := (1 : Int32)) C dL_law_1848 (by decide) ?_
  refine x_iadd C dL_law_1849 ?_
  obtain ⟨hi723, h1⟩ := h1
  refine x_sald C hSc hi723 dL_law_1850 ?_
  refine x_aload_n_w C 1 dL_law_1851 rfl rfl ?_
  refine x_iload C 5 dL_law_1852 rfl ?_
  refine x_iconst (v := (nI 2)) C dL_law_1854 (by decide) ?_
  refine x_iadd C dL_law_1855 ?_
  obtain ⟨hi724, h1⟩ := h1
  refine x_sald C hSc hi724 dL_law_1856 ?_
  refine x_aload_n_w C 1 dL_law_1857 rfl rfl ?_
  refine x_iload C 5 dL_law_1858 rfl ?_
  refine x_iconst (v := (nI 3)) C dL_law_1860 (by decide) ?_
  refine x_iadd C dL_law_1861 ?_
  obtain ⟨hi725, h1⟩ := h1
  refine x_sald C hSc hi725 dL_law_1862 ?_
  obtain ⟨n726, hr727, h1⟩ := h1
  obtain ⟨ht728, h1⟩ := h1
  obtain ⟨hc729, hc730, h1⟩ := h1
  refine x_callV (rm' := rm_X12_role) (n := n726) C (kp_X12_role_met h1) lk_198 gw_1112 gw_1113 xv_12 rfl hr727 ht728 rfl (Nat.le_of_ble_eq_true rfl) ⟨Nat.le_of_ble_eq_true rfl, Nat.le_of_ble_eq_true rfl, hc729, hc730⟩ dL_law_1863 xm_kx (xm_ki (fun r732 S731 h1 => ?_))
  refine x_istore (L' := [(6, xm_i r732), (5, xm_i r722), (0, xm_w0 b), (1, xm_r x1), (2, xm_r x2), (3, xm_r x3), (4, xm_i x4)]) C dL_law_1866 (by decide) rfl ?_
  refine x_aload_n C 4 dL_law_1868 rfl rfl ?_
  obtain ⟨n733, hr734, h1⟩ := h1
  obtain ⟨ht735, h1⟩ := h1
  obtain ⟨hc736, hc737, h1⟩ := h1
  refine x_callV (rm' := rm_X12_thrown) (n := n733) C (kp_X12_thrown_met h1) lk_171 gw_941 gw_942 xv_12 rfl hr734 ht735 rfl (Nat.le_of_ble_eq_true rfl) ⟨Nat.le_of_ble_eq_true rfl, Nat.le_of_ble_eq_true rfl, hc736, hc737⟩ dL_law_1869 xm_kx (xm_ki (fun r739 S738 h1 => ?_))
  refine x_iload C 1 dL_law_1872 rfl ?_
  refine x_icmp_eq (tgt := 1879) C dL_law_1874 (by decide) (fun z9 => ?_) (fun z9 => ?_)
  · have h1 := h1.1 z9
    refine x_iload C 1 dL_law_1879 rfl ?_
    refine x_if_ne (tgt := 1903) C dL_law_1881 (by decide) (fun z9 => ?_) (fun z9 => ?_)
    · have h1 := h1.1 z9
      refine x_keep (L' := [(0, xm_w0 b), (1, xm_r x1), (2, xm_r x2), (3, xm_r x3), (4, xm_i x4)]) C [2, 3, 4, 5, 6] rfl ?_
      exact kp_L_law_1903 b len xs x1 x2 x3 x4 S738 (kc + 3) (ks + 18) C N hSc hg hZ23 h1
    · have h1 := h1.2 z9
      refine x_aload_n C 5 dL_law_1884 rfl rfl ?_
      refine x_iconst (v := (0 : Int32)) C dL_law_1885 (by decide) ?_
      obtain ⟨n740, hr741, h1⟩ := h1
      obtain ⟨z743, ht742, h1⟩ := h1
      obtain ⟨hi744, h1⟩ := h1
      refine x_lald (n := n740) C hr741 ht742 hi744 dL_law_1886 ?_
      refine x_iload C 0 dL_law_1887 rfl ?_
      refine x_if_eq (tgt := 1896) C dL_law_1889 (by decide) (fun z9 => ?_) (fun z9 => ?_)
      · have h1 := h1.1 z9
        refine x_lconst (v := (0 : Int64)) C dL_law_1896 (by decide) ?_
        refine x_keep (L' := [(0, xm_w0 b), (1, xm_r x1), (2, xm_r x2), (3, xm_r x3), (4, xm_i x4)]) C [2, 3, 4, 5, 6] rfl ?_
        exact kp_L_law_1897 b len xs x1 x2 x3 x4 (0 : Int64) (st_l S738 n740 ((0 : Int32)).toNatClampNeg) S738 (kc + 3) (ks + 18) C N hSc hg hZ23 h1
      · have h1 := h1.2 z9
        refine x_lconst (v := (1 : Int64)) C dL_law_1892 (by decide) ?_
        refine x_goto (tgt := 1897) C dL_law_1893 (by decide) ?_
        refine x_keep (L' := [(0, xm_w0 b), (1, xm_r x1), (2, xm_r x2), (3, xm_r x3), (4, xm_i x4)]) C [2, 3, 4, 5, 6] rfl ?_
        exact kp_L_law_1897 b len xs x1 x2 x3 x4 (1 : Int64) (st_l S738 n740 ((0 : Int32)).toNatClampNeg) S738 (kc + 3) (ks + 18) C N hSc hg hZ23 h1
  · have h1 := h1.2 z9
    refine x_iconst (v := (0 : Int32)) C dL_law_1877 (by decide) ?_
    obtain ⟨hc745, hc746, h1⟩ := h1
    exact x_zret C hc745 hc746 rfl (by decide) dL_law_1878 (hg _ _ h1)
def wp_L_law_1983 (b len : Nat) (xs : Nat → Int32) (x1 : Option Nat) (x2 : Option Nat) (x3 : Option Nat) (x4 : Int32) (S : xm_S) (kc ks : Nat) (g : Int32 → xm_S → Prop) (Z23 : Option Nat → Option Nat → Option Nat → Int32 → xm_S → Nat → Nat → Prop) : Prop :=
  wp_L_law_2965 b len xs x1 x2 x3 x4 S kc ks g Z23
set_option maxRecDepth 100000 in
set_option maxHeartbeats 4000000 in
theorem kp_L_law_1983 {K : xm_K} (b len : Nat) (xs : Nat → Int32) (x1 : Option Nat) (x2 : Option Nat) (x3 : Option Nat) (x4 : Int32) (S : xm_S) (kc ks : Nat) {g : Int32 → xm_S → Prop} {Z23 : Option Nat → Option Nat → Option Nat → Int32 → xm_S → Nat → Nat → Prop} (C : xm_Cx K cL_law RL 7 (some .boolean) rm_L_law) (N : xm_Nx K) (hSc : xm_Sc K b len xs) (hg : ∀ v S, g v S → xm_q K (some (xm_i v)) S) (hZ23 : ∀ x1 x2 x3 x4 S kc ks, Z23 x1 x2 x3 x4 S kc ks → xm_W K kc ks 23 [(0, xm_w0 b), (1, xm_r x1), (2, xm_r x2), (3, xm_r x3), (4, xm_i x4)] [] S) (h1 : wp_L_law_1983 b len xs x1 x2 x3 x4 S kc ks g Z23) : xm_W K kc ks 1983 [(0, xm_w0 b), (1, xm_r x1), (2, xm_r x2), (3, xm_r x3), (4, xm_i x4)] [] S := by
  unfold wp_L_law_1983 at h1
  refine x_goto (tgt := 2965) C dL_law_1983 (by decide) ?_
  exact kp_L_law_2965 b len xs x1 x2 x3 x4 S kc ks C N hSc hg hZ23 h1
def wp_L_law_1906 (b len : Nat) (xs : Nat → Int32) (x1 : Option Nat) (x2 : Option Nat) (x3 : Option Nat) (x4 : Int32) (S : xm_S) (kc ks : Nat) (g : Int32 → xm_S → Prop) (Z23 : Option Nat → Option Nat → Option Nat → Int32 → xm_S → Nat → Nat → Prop) : Prop :=
  vp_in (x4 + (1 : Int32)) len ∧ vp_in (x4 + (nI 2)) len ∧ vp_in (x4 + (nI 3)) len ∧ kc + 3 ≤ 601024 ∧ ks + 18 ≤ 7293034 ∧ wp_L_index x1 (xs ((x4 + (1 : Int32))).toNatClampNeg) (xs ((x4 + (nI 2))).toNatClampNeg) (xs ((x4 + (nI 3))).toNatClampNeg) x3 S (fun r753 S752 => vp_in (x4 + (1 : Int32)) len ∧ vp_in (x4 + (nI 2)) len ∧ vp_in (x4 + (nI 3)) len ∧ ∃ n757, x2 = some n757 ∧ st_t S752 n757 = some (12, 0) ∧ (kc + 3) ≤ 601024 ∧ (ks + 18) ≤ 7293034 ∧ wp_X12_index n757 (xs ((x4 + (1 : Int32))).toNatClampNeg) (xs ((x4 + (nI 2))).toNatClampNeg) (xs ((x4 + (nI 3))).toNatClampNeg) S752 (fun r763 S762 => ∃ n764, x2 = some n764 ∧ st_t S762 n764 = some (12, 0) ∧ (kc + 3) ≤ 601024 ∧ (ks + 18) ≤ 7293034 ∧ wp_X12_thrown n764 S762 (fun r770 S769 => (r770 = r753 → (¬ r753 = 0 → wp_L_law_1983 b len xs x1 x2 x3 x4 S769 (kc + 3) (ks + 18) g Z23) ∧ (r753 = 0 → ∃ n771, x3 = some n771 ∧ ∃ z774, st_t S769 n771 = some (103, z774) ∧ vp_in (0 : Int32) z774 ∧ ((lg_cmp (st_l S769 n771 ((0 : Int32)).toNatClampNeg) ((r763).toInt64)) = 0 → wp_L_law_1983 b len xs x1 x2 x3 x4 S769 (kc + 3) (ks + 18) g Z23) ∧ (¬ (lg_cmp (st_l S769 n771 ((0 : Int32)).toNatClampNeg) ((r763).toInt64)) = 0 → (kc + 3) ≤ 601024 ∧ (ks + 18) ≤ 7293034 ∧ g (0 : Int32) S769))) ∧ (¬ r770 = r753 → (kc + 3) ≤ 601024 ∧ (ks + 18) ≤ 7293034 ∧ g (0 : Int32) S769))))
set_option maxRecDepth 100000 in
set_option maxHeartbeats 4000000 in
theorem kp_L_law_1906 {K : xm_K} (b len : Nat) (xs : Nat → Int32) (x1 : Option Nat) (x2 : Option Nat) (x3 : Option Nat) (x4 : Int32) (S : xm_S) (kc ks : Nat) {g : Int32 → xm_S → Prop} {Z23 : Option Nat → Option Nat → Option Nat → Int32 → xm_S → Nat → Nat → Prop} (C : xm_Cx K cL_law RL 7 (some .boolean) rm_L_law) (N : xm_Nx K) (hSc : xm_Sc K b len xs) (hg : ∀ v S, g v S → xm_q K (some (xm_i v)) S) (hZ23 : ∀ x1 x2 x3 x4 S kc ks, Z23 x1 x2 x3 x4 S kc ks → xm_W K kc ks 23 [(0, xm_w0 b), (1, xm_r x1), (2, xm_r x2), (3, xm_r x3), (4, xm_i x4)] [] S) (h1 : wp_L_law_1906 b len xs x1 x2 x3 x4 S kc ks g Z23) : xm_W K kc ks 1906 [(0, xm_w0 b), (1, xm_r x1), (2, xm_r x2), (3, xm_r x3), (4, xm_i x4)] [] S := by
  unfold wp_L_law_1906 at h1
  refine x_aload_n C 1 dL_law_1906 rfl rfl ?_
  refine x_aload_n_w C 0 dL_law_1907 rfl rfl ?_
  refine x_iload C 4 dL_law_1908 rfl ?_
  refine x_iconst (v := (1 : Int32)) C dL_law_1910 (by decide) ?_
  refine x_iadd C dL_law_1911 ?_
  obtain ⟨hi747, h1⟩ := h1
  refine x_sald C hSc hi747 dL_law_1912 ?_
  refine x_aload_n_w C 0 dL_law_1913 rfl rfl ?_
  refine x_iload C 4 dL_law_1914 rfl ?_
  refine x_iconst (v := (nI 2)) C dL_law_1916 (by decide) ?_
  refine x_iadd C dL_law_1917 ?_
  obtain ⟨hi748, h1⟩ := h1
  refine x_sald C hSc hi748 dL_law_1918 ?_
  refine x_aload_n_w C 0 dL_law_1919 rfl rfl ?_
  refine x_iload C 4 dL_law_1920 rfl ?_
  refine x_iconst (v := (nI 3)) C dL_law_1922 (by decide) ?_
  refine x_iadd C dL_law_1923 ?_
  obtain ⟨hi749, h1⟩ := h1
  refine x_sald C hSc hi749 dL_law_1924 ?_
  refine x_aload_n C 3 dL_law_1925 rfl rfl ?_
  obtain ⟨hc750, hc751, h1⟩ := h1
  refine x_callSH (rm' := rm_L_index) (hh := [(0, 12, 15, 13)]) C (kp_L_index_met h1) gw_1114 gw_932 gw_1115 ⟨by decide, by decide, show Option.map _ (parseMethodDescriptor yL_index.desc) = some 5 from by decide +kernel⟩ gw_1116 rfl (Nat.le_of_ble_eq_true rfl) ⟨Nat.le_of_ble_eq_true rfl, Nat.le_of_ble_eq_true rfl, hc750, hc751⟩ dL_law_1926 xm_kx (xm_ki (fun r753 S752 h1 => ?_))
  refine x_istore (L' := [(5, xm_i r753), (0, xm_w0 b), (1, xm_r x1), (2, xm_r x2), (3, xm_r x3), (4, xm_i x4)]) C dL_law_1929 (by decide) rfl ?_
  refine x_aload_n C 3 dL_law_1931 rfl rfl ?_
  refine x_aload_n_w C 1 dL_law_1932 rfl rfl ?_
  refine x_iload C 5 dL_law_1933 rfl ?_
  refine x_iconst (v := (1 : Int32)) C dL_law_1935 (by decide) ?_
  refine x_iadd C dL_law_1936 ?_
  obtain ⟨hi754, h1⟩ := h1
  refine x_sald C hSc hi754 dL_law_1937 ?_
  refine x_aload_n_w C 1 dL_law_1938 rfl rfl ?_
  refine x_iload C 5 dL_law_1939 rfl ?_
  refine x_iconst (v := (nI 2)) C dL_law_1941 (by decide) ?_
  refine x_iadd C dL_law_1942 ?_
  obtain ⟨hi755, h1⟩ := h1
  refine x_sald C hSc hi755 dL_law_1943 ?_
  refine x_aload_n_w C 1 dL_law_1944 rfl rfl ?_
  refine x_iload C 5 dL_law_1945 rfl ?_
  refine x_iconst (v := (nI 3)) C dL_law_1947 (by decide) ?_
  refine x_iadd C dL_law_1948 ?_
  obtain ⟨hi756, h1⟩ := h1
  refine x_sald C hSc hi756 dL_law_1949 ?_
  obtain ⟨n757, hr758, h1⟩ := h1
  obtain ⟨ht759, h1⟩ := h1
  obtain ⟨hc760, hc761, h1⟩ := h1
  refine x_callV (rm' := rm_X12_index) (n := n757) C (kp_X12_index_met h1) lk_199 gw_1119 gw_1120 xv_12 rfl hr758 ht759 rfl (Nat.le_of_ble_eq_true rfl) ⟨Nat.le_of_ble_eq_true rfl, Nat.le_of_ble_eq_true rfl, hc760, hc761⟩ dL_law_1950 xm_kx (xm_ki (fun r763 S762 h1 => ?_))
  refine x_istore (L' := [(6, xm_i r763), (5, xm_i r753), (0, xm_w0 b), (1, xm_r x1), (2, xm_r x2), (3, xm_r x3), (4, xm_i x4)]) C dL_law_1953 (by decide) rfl ?_
  refine x_aload_n C 4 dL_law_1955 rfl rfl ?_
  obtain ⟨n764, hr765, h1⟩ := h1
  obtain ⟨ht766, h1⟩ := h1
  obtain ⟨hc767, hc768, h1⟩ := h1
  refine x_callV (rm' := rm_X12_thrown) (n := n764) C (kp_X12_thrown_met h1) lk_171 gw_941 gw_942 xv_12 rfl hr765 ht766 rfl (Nat.le_of_ble_eq_true rfl) ⟨Nat.le_of_ble_eq_true rfl, Nat.le_of_ble_eq_true rfl, hc767, hc768⟩ dL_law_1956 xm_kx (xm_ki (fun r770 S769 h1 => ?_))
  refine x_iload C 1 dL_law_1959 rfl ?_
  refine x_icmp_eq (tgt := 1966) C dL_law_1961 (by decide) (fun z9 => ?_) (fun z9 => ?_)
  · have h1 := h1.1 z9
    refine x_iload C 1 dL_law_1966 rfl ?_
    refine x_if_ne (tgt := 1983) C dL_law_1968 (by decide) (fun z9 => ?_) (fun z9 => ?_)
    · have h1 := h1.1 z9
      refine x_keep (L' := [(0, xm_w0 b), (1, xm_r x1), (2, xm_r x2), (3, xm_r x3), (4, xm_i x4)]) C [2, 3, 4, 5, 6] rfl ?_
      exact kp_L_law_1983 b len xs x1 x2 x3 x4 S769 (kc + 3) (ks + 18) C N hSc hg hZ23 h1
    · have h1 := h1.2 z9
      refine x_aload_n C 5 dL_law_1971 rfl rfl ?_
      refine x_iconst (v := (0 : Int32)) C dL_law_1972 (by decide) ?_
      obtain ⟨n771, hr772, h1⟩ := h1
      obtain ⟨z774, ht773, h1⟩ := h1
      obtain ⟨hi775, h1⟩ := h1
      refine x_lald (n := n771) C hr772 ht773 hi775 dL_law_1973 ?_
      refine x_iload C 0 dL_law_1974 rfl ?_
      refine x_i2l C dL_law_1976 ?_
      refine x_lcmp C dL_law_1977 ?_
      refine x_if_eq (tgt := 1983) C dL_law_1978 (by decide) (fun z9 => ?_) (fun z9 => ?_)
      · have h1 := h1.1 z9
        refine x_keep (L' := [(0, xm_w0 b), (1, xm_r x1), (2, xm_r x2), (3, xm_r x3), (4, xm_i x4)]) C [2, 3, 4, 5, 6] rfl ?_
        exact kp_L_law_1983 b len xs x1 x2 x3 x4 S769 (kc + 3) (ks + 18) C N hSc hg hZ23 h1
      · have h1 := h1.2 z9
        refine x_iconst (v := (0 : Int32)) C dL_law_1981 (by decide) ?_
        obtain ⟨hc776, hc777, h1⟩ := h1
        exact x_zret C hc776 hc777 rfl (by decide) dL_law_1982 (hg _ _ h1)
  · have h1 := h1.2 z9
    refine x_iconst (v := (0 : Int32)) C dL_law_1964 (by decide) ?_
    obtain ⟨hc778, hc779, h1⟩ := h1
    exact x_zret C hc778 hc779 rfl (by decide) dL_law_1965 (hg _ _ h1)
def wp_L_law_2075 (b len : Nat) (xs : Nat → Int32) (x1 : Option Nat) (x2 : Option Nat) (x3 : Option Nat) (x4 : Int32) (S : xm_S) (kc ks : Nat) (g : Int32 → xm_S → Prop) (Z23 : Option Nat → Option Nat → Option Nat → Int32 → xm_S → Nat → Nat → Prop) : Prop :=
  wp_L_law_2965 b len xs x1 x2 x3 x4 S kc ks g Z23
set_option maxRecDepth 100000 in
set_option maxHeartbeats 4000000 in
theorem kp_L_law_2075 {K : xm_K} (b len : Nat) (xs : Nat → Int32) (x1 : Option Nat) (x2 : Option Nat) (x3 : Option Nat) (x4 : Int32) (S : xm_S) (kc ks : Nat) {g : Int32 → xm_S → Prop} {Z23 : Option Nat → Option Nat → Option Nat → Int32 → xm_S → Nat → Nat → Prop} (C : xm_Cx K cL_law RL 7 (some .boolean) rm_L_law) (N : xm_Nx K) (hSc : xm_Sc K b len xs) (hg : ∀ v S, g v S → xm_q K (some (xm_i v)) S) (hZ23 : ∀ x1 x2 x3 x4 S kc ks, Z23 x1 x2 x3 x4 S kc ks → xm_W K kc ks 23 [(0, xm_w0 b), (1, xm_r x1), (2, xm_r x2), (3, xm_r x3), (4, xm_i x4)] [] S) (h1 : wp_L_law_2075 b len xs x1 x2 x3 x4 S kc ks g Z23) : xm_W K kc ks 2075 [(0, xm_w0 b), (1, xm_r x1), (2, xm_r x2), (3, xm_r x3), (4, xm_i x4)] [] S := by
  unfold wp_L_law_2075 at h1
  refine x_goto (tgt := 2965) C dL_law_2075 (by decide) ?_
  exact kp_L_law_2965 b len xs x1 x2 x3 x4 S kc ks C N hSc hg hZ23 h1
def wp_L_law_1986 (b len : Nat) (xs : Nat → Int32) (x1 : Option Nat) (x2 : Option Nat) (x3 : Option Nat) (x4 : Int32) (S : xm_S) (kc ks : Nat) (g : Int32 → xm_S → Prop) (Z23 : Option Nat → Option Nat → Option Nat → Int32 → xm_S → Nat → Nat → Prop) : Prop :=
  vp_in (x4 + (1 : Int32)) len ∧ vp_in (x4 + (nI 2)) len ∧ vp_in (x4 + (nI 3)) len ∧ vp_in (x4 + (nI 4)) len ∧ kc + 4 ≤ 601024 ∧ ks + 24 ≤ 7293034 ∧ wp_L_mirror x1 (xs ((x4 + (1 : Int32))).toNatClampNeg) (xs ((x4 + (nI 2))).toNatClampNeg) (xs ((x4 + (nI 3))).toNatClampNeg) (xs ((x4 + (nI 4))).toNatClampNeg) x3 S (fun r787 S786 => vp_in (x4 + (1 : Int32)) len ∧ vp_in (x4 + (nI 2)) len ∧ vp_in (x4 + (nI 3)) len ∧ vp_in (x4 + (nI 4)) len ∧ ∃ n792, x2 = some n792 ∧ st_t S786 n792 = some (12, 0) ∧ (kc + 4) ≤ 601024 ∧ (ks + 24) ≤ 7293034 ∧ wp_X12_mirror n792 (xs ((x4 + (1 : Int32))).toNatClampNeg) (xs ((x4 + (nI 2))).toNatClampNeg) (xs ((x4 + (nI 3))).toNatClampNeg) (xs ((x4 + (nI 4))).toNatClampNeg) S786 (fun r798 S797 => ∃ n799, x2 = some n799 ∧ st_t S797 n799 = some (12, 0) ∧ (kc + 4) ≤ 601024 ∧ (ks + 24) ≤ 7293034 ∧ wp_X12_thrown n799 S797 (fun r805 S804 => (r805 = r787 → (¬ r787 = 0 → wp_L_law_2075 b len xs x1 x2 x3 x4 S804 (kc + 4) (ks + 24) g Z23) ∧ (r787 = 0 → ∃ n806, x3 = some n806 ∧ ∃ z809, st_t S804 n806 = some (103, z809) ∧ vp_in (0 : Int32) z809 ∧ ((lg_cmp (st_l S804 n806 ((0 : Int32)).toNatClampNeg) ((r798).toInt64)) = 0 → wp_L_law_2075 b len xs x1 x2 x3 x4 S804 (kc + 4) (ks + 24) g Z23) ∧ (¬ (lg_cmp (st_l S804 n806 ((0 : Int32)).toNatClampNeg) ((r798).toInt64)) = 0 → (kc + 4) ≤ 601024 ∧ (ks + 24) ≤ 7293034 ∧ g (0 : Int32) S804))) ∧ (¬ r805 = r787 → (kc + 4) ≤ 601024 ∧ (ks + 24) ≤ 7293034 ∧ g (0 : Int32) S804))))
set_option maxRecDepth 100000 in
set_option maxHeartbeats 4000000 in
theorem kp_L_law_1986 {K : xm_K} (b len : Nat) (xs : Nat → Int32) (x1 : Option Nat) (x2 : Option Nat) (x3 : Option Nat) (x4 : Int32) (S : xm_S) (kc ks : Nat) {g : Int32 → xm_S → Prop} {Z23 : Option Nat → Option Nat → Option Nat → Int32 → xm_S → Nat → Nat → Prop} (C : xm_Cx K cL_law RL 7 (some .boolean) rm_L_law) (N : xm_Nx K) (hSc : xm_Sc K b len xs) (hg : ∀ v S, g v S → xm_q K (some (xm_i v)) S) (hZ23 : ∀ x1 x2 x3 x4 S kc ks, Z23 x1 x2 x3 x4 S kc ks → xm_W K kc ks 23 [(0, xm_w0 b), (1, xm_r x1), (2, xm_r x2), (3, xm_r x3), (4, xm_i x4)] [] S) (h1 : wp_L_law_1986 b len xs x1 x2 x3 x4 S kc ks g Z23) : xm_W K kc ks 1986 [(0, xm_w0 b), (1, xm_r x1), (2, xm_r x2), (3, xm_r x3), (4, xm_i x4)] [] S := by
  unfold wp_L_law_1986 at h1
  refine x_aload_n C 1 dL_law_1986 rfl rfl ?_
  refine x_aload_n_w C 0 dL_law_1987 rfl rfl ?_
  refine x_iload C 4 dL_law_1988 rfl ?_
  refine x_iconst (v := (1 : Int32)) C dL_law_1990 (by decide) ?_
  refine x_iadd C dL_law_1991 ?_
  obtain ⟨hi780, h1⟩ := h1
  refine x_sald C hSc hi780 dL_law_1992 ?_
  refine x_aload_n_w C 0 dL_law_1993 rfl rfl ?_
  refine x_iload C 4 dL_law_1994 rfl ?_
  refine x_iconst (v := (nI 2)) C dL_law_1996 (by decide) ?_
  refine x_iadd C dL_law_1997 ?_
  obtain ⟨hi781, h1⟩ := h1
  refine x_sald C hSc hi781 dL_law_1998 ?_
  refine x_aload_n_w C 0 dL_law_1999 rfl rfl ?_
  refine x_iload C 4 dL_law_2000 rfl ?_
  refine x_iconst (v := (nI 3)) C dL_law_2002 (by decide) ?_
  refine x_iadd C dL_law_2003 ?_
  obtain ⟨hi782, h1⟩ := h1
  refine x_sald C hSc hi782 dL_law_2004 ?_
  refine x_aload_n_w C 0 dL_law_2005 rfl rfl ?_
  refine x_iload C 4 dL_law_2006 rfl ?_
  refine x_iconst (v := (nI 4)) C dL_law_2008 (by decide) ?_
  refine x_iadd C dL_law_2009 ?_
  obtain ⟨hi783, h1⟩ := h1
  refine x_sald C hSc hi783 dL_law_2010 ?_
  refine x_aload_n C 3 dL_law_2011 rfl rfl ?_
  obtain ⟨hc784, hc785, h1⟩ := h1
  refine x_callSH (rm' := rm_L_mirror) (hh := [(0, 14, 17, 21), (0, 14, 21, 13)]) C (kp_L_mirror_met h1) gw_1121 gw_932 gw_1122 ⟨by decide, by decide, show Option.map _ (parseMethodDescriptor yL_mirror.desc) = some 6 from by decide +kernel⟩ gw_1123 rfl (Nat.le_of_ble_eq_true rfl) ⟨Nat.le_of_ble_eq_true rfl, Nat.le_of_ble_eq_true rfl, hc784, hc785⟩ dL_law_2012 xm_kx (xm_ki (fun r787 S786 h1 => ?_))
  refine x_istore (L' := [(5, xm_i r787), (0, xm_w0 b), (1, xm_r x1), (2, xm_r x2), (3, xm_r x3), (4, xm_i x4)]) C dL_law_2015 (by decide) rfl ?_
  refine x_aload_n C 3 dL_law_2017 rfl rfl ?_
  refine x_aload_n_w C 1 dL_law_2018 rfl rfl ?_
  refine x_iload C 5 dL_law_2019 rfl ?_
  refine x_iconst (v := (1 : Int32)) C dL_law_2021 (by decide) ?_
  refine x_iadd C dL_law_2022 ?_
  obtain ⟨hi788, h1⟩ := h1
  refine x_sald C hSc hi788 dL_law_2023 ?_
  refine x_aload_n_w C 1 dL_law_2024 rfl rfl ?_
  refine x_iload C 5 dL_law_2025 rfl ?_
  refine x_iconst (v := (nI 2)) C dL_law_2027 (by decide) ?_
  refine x_iadd C dL_law_2028 ?_
  obtain ⟨hi789, h1⟩ := h1
  refine x_sald C hSc hi789 dL_law_2029 ?_
  refine x_aload_n_w C 1 dL_law_2030 rfl rfl ?_
  refine x_iload C 5 dL_law_2031 rfl ?_
  refine x_iconst (v := (nI 3)) C dL_law_2033 (by decide) ?_
  refine x_iadd C dL_law_2034 ?_
  obtain ⟨hi790, h1⟩ := h1
  refine x_sald C hSc hi790 dL_law_2035 ?_
  refine x_aload_n_w C 1 dL_law_2036 rfl rfl ?_
  refine x_iload C 5 dL_law_2037 rfl ?_
  refine x_iconst (v := (nI 4)) C dL_law_2039 (by decide) ?_
  refine x_iadd C dL_law_2040 ?_
  obtain ⟨hi791, h1⟩ := h1
  refine x_sald C hSc hi791 dL_law_2041 ?_
  obtain ⟨n792, hr793, h1⟩ := h1
  obtain ⟨ht794, h1⟩ := h1
  obtain ⟨hc795, hc796, h1⟩ := h1
  refine x_callV (rm' := rm_X12_mirror) (n := n792) C (kp_X12_mirror_met h1) lk_200 gw_1126 gw_1127 xv_12 rfl hr793 ht794 rfl (Nat.le_of_ble_eq_true rfl) ⟨Nat.le_of_ble_eq_true rfl, Nat.le_of_ble_eq_true rfl, hc795, hc796⟩ dL_law_2042 xm_kx (xm_ki (fun r798 S797 h1 => ?_))
  refine x_istore (L' := [(6, xm_i r798), (5, xm_i r787), (0, xm_w0 b), (1, xm_r x1), (2, xm_r x2), (3, xm_r x3), (4, xm_i x4)]) C dL_law_2045 (by decide) rfl ?_
  refine x_aload_n C 4 dL_law_2047 rfl rfl ?_
  obtain ⟨n799, hr800, h1⟩ := h1
  obtain ⟨ht801, h1⟩ := h1
  obtain ⟨hc802, hc803, h1⟩ := h1
  refine x_callV (rm' := rm_X12_thrown) (n := n799) C (kp_X12_thrown_met h1) lk_171 gw_941 gw_942 xv_12 rfl hr800 ht801 rfl (Nat.le_of_ble_eq_true rfl) ⟨Nat.le_of_ble_eq_true rfl, Nat.le_of_ble_eq_true rfl, hc802, hc803⟩ dL_law_2048 xm_kx (xm_ki (fun r805 S804 h1 => ?_))
  refine x_iload C 1 dL_law_2051 rfl ?_
  refine x_icmp_eq (tgt := 2058) C dL_law_2053 (by decide) (fun z9 => ?_) (fun z9 => ?_)
  · have h1 := h1.1 z9
    refine x_iload C 1 dL_law_2058 rfl ?_
    refine x_if_ne (tgt := 2075) C dL_law_2060 (by decide) (fun z9 => ?_) (fun z9 => ?_)
    · have h1 := h1.1 z9
      refine x_keep (L' := [(0, xm_w0 b), (1, xm_r x1), (2, xm_r x2), (3, xm_r x3), (4, xm_i x4)]) C [2, 3, 4, 5, 6] rfl ?_
      exact kp_L_law_2075 b len xs x1 x2 x3 x4 S804 (kc + 4) (ks + 24) C N hSc hg hZ23 h1
    · have h1 := h1.2 z9
      refine x_aload_n C 5 dL_law_2063 rfl rfl ?_
      refine x_iconst (v := (0 : Int32)) C dL_law_2064 (by decide) ?_
      obtain ⟨n806, hr807, h1⟩ := h1
      obtain ⟨z809, ht808, h1⟩ := h1
      obtain ⟨hi810, h1⟩ := h1
      refine x_lald (n := n806) C hr807 ht808 hi810 dL_law_2065 ?_
      refine x_iload C 0 dL_law_2066 rfl ?_
      refine x_i2l C dL_law_2068 ?_
      refine x_lcmp C dL_law_2069 ?_
      refine x_if_eq (tgt := 2075) C dL_law_2070 (by decide) (fun z9 => ?_) (fun z9 => ?_)
      · have h1 := h1.1 z9
        refine x_keep (L' := [(0, xm_w0 b), (1, xm_r x1), (2, xm_r x2), (3, xm_r x3), (4, xm_i x4)]) C [2, 3, 4, 5, 6] rfl ?_
        exact kp_L_law_2075 b len xs x1 x2 x3 x4 S804 (kc + 4) (ks + 24) C N hSc hg hZ23 h1
      · have h1 := h1.2 z9
        refine x_iconst (v := (0 : Int32)) C dL_law_2073 (by decide) ?_
        obtain ⟨hc811, hc812, h1⟩ := h1
        exact x_zret C hc811 hc812 rfl (by decide) dL_law_2074 (hg _ _ h1)
  · have h1 := h1.2 z9
    refine x_iconst (v := (0 : Int32)) C dL_law_2056 (by decide) ?_
    obtain ⟨hc813, hc814, h1⟩ := h1
    exact x_zret C hc813 hc814 rfl (by decide) dL_law_2057 (hg _ _ h1)
def wp_L_law_2166 (b len : Nat) (xs : Nat → Int32) (x1 : Option Nat) (x2 : Option Nat) (x3 : Option Nat) (x4 : Int32) (S : xm_S) (kc ks : Nat) (g : Int32 → xm_S → Prop) (Z23 : Option Nat → Option Nat → Option Nat → Int32 → xm_S → Nat → Nat → Prop) : Prop :=
  wp_L_law_2965 b len xs x1 x2 x3 x4 S kc ks g Z23
set_option maxRecDepth 100000 in
set_option maxHeartbeats 4000000 in
theorem kp_L_law_2166 {K : xm_K} (b len : Nat) (xs : Nat → Int32) (x1 : Option Nat) (x2 : Option Nat) (x3 : Option Nat) (x4 : Int32) (S : xm_S) (kc ks : Nat) {g : Int32 → xm_S → Prop} {Z23 : Option Nat → Option Nat → Option Nat → Int32 → xm_S → Nat → Nat → Prop} (C : xm_Cx K cL_law RL 7 (some .boolean) rm_L_law) (N : xm_Nx K) (hSc : xm_Sc K b len xs) (hg : ∀ v S, g v S → xm_q K (some (xm_i v)) S) (hZ23 : ∀ x1 x2 x3 x4 S kc ks, Z23 x1 x2 x3 x4 S kc ks → xm_W K kc ks 23 [(0, xm_w0 b), (1, xm_r x1), (2, xm_r x2), (3, xm_r x3), (4, xm_i x4)] [] S) (h1 : wp_L_law_2166 b len xs x1 x2 x3 x4 S kc ks g Z23) : xm_W K kc ks 2166 [(0, xm_w0 b), (1, xm_r x1), (2, xm_r x2), (3, xm_r x3), (4, xm_i x4)] [] S := by
  unfold wp_L_law_2166 at h1
  refine x_goto (tgt := 2965) C dL_law_2166 (by decide) ?_
  exact kp_L_law_2965 b len xs x1 x2 x3 x4 S kc ks C N hSc hg hZ23 h1
def wp_L_law_2160 (b len : Nat) (xs : Nat → Int32) (x1 : Option Nat) (x2 : Option Nat) (x3 : Option Nat) (x4 : Int32) (s0 : Int64) (s1 : Int64) (S : xm_S) (kc ks : Nat) (g : Int32 → xm_S → Prop) (Z23 : Option Nat → Option Nat → Option Nat → Int32 → xm_S → Nat → Nat → Prop) : Prop :=
  ((lg_cmp s1 s0) = 0 → wp_L_law_2166 b len xs x1 x2 x3 x4 S kc ks g Z23) ∧ (¬ (lg_cmp s1 s0) = 0 → kc ≤ 601024 ∧ ks ≤ 7293034 ∧ g (0 : Int32) S)
set_option maxRecDepth 100000 in
set_option maxHeartbeats 4000000 in
theorem kp_L_law_2160 {K : xm_K} (b len : Nat) (xs : Nat → Int32) (x1 : Option Nat) (x2 : Option Nat) (x3 : Option Nat) (x4 : Int32) (s0 : Int64) (s1 : Int64) (S : xm_S) (kc ks : Nat) {g : Int32 → xm_S → Prop} {Z23 : Option Nat → Option Nat → Option Nat → Int32 → xm_S → Nat → Nat → Prop} (C : xm_Cx K cL_law RL 7 (some .boolean) rm_L_law) (N : xm_Nx K) (hSc : xm_Sc K b len xs) (hg : ∀ v S, g v S → xm_q K (some (xm_i v)) S) (hZ23 : ∀ x1 x2 x3 x4 S kc ks, Z23 x1 x2 x3 x4 S kc ks → xm_W K kc ks 23 [(0, xm_w0 b), (1, xm_r x1), (2, xm_r x2), (3, xm_r x3), (4, xm_i x4)] [] S) (h1 : wp_L_law_2160 b len xs x1 x2 x3 x4 s0 s1 S kc ks g Z23) : xm_W K kc ks 2160 [(0, xm_w0 b), (1, xm_r x1), (2, xm_r x2), (3, xm_r x3), (4, xm_i x4)] [xm_l s0, xm_l s1] S := by
  unfold wp_L_law_2160 at h1
  refine x_lcmp C dL_law_2160 ?_
  refine x_if_eq (tgt := 2166) C dL_law_2161 (by decide) (fun z9 => ?_) (fun z9 => ?_)
  · have h1 := h1.1 z9
    exact kp_L_law_2166 b len xs x1 x2 x3 x4 S kc ks C N hSc hg hZ23 h1
  · have h1 := h1.2 z9
    refine x_iconst (v := (0 : Int32)) C dL_law_2164 (by decide) ?_
    obtain ⟨hc815, hc816, h1⟩ := h1
    exact x_zret C hc815 hc816 rfl (by decide) dL_law_2165 (hg _ _ h1)
def wp_L_law_2126 (b len : Nat) (xs : Nat → Int32) (x1 : Option Nat) (x2 : Option Nat) (x3 : Option Nat) (x4 : Int32) (x5 : Int32) (s0 : Int32) (s1 : Int32) (s2 : Option Nat) (S : xm_S) (kc ks : Nat) (g : Int32 → xm_S → Prop) (Z23 : Option Nat → Option Nat → Option Nat → Int32 → xm_S → Nat → Nat → Prop) : Prop :=
  ∃ n817, s2 = some n817 ∧ st_t S n817 = some (12, 0) ∧ kc ≤ 601024 ∧ ks ≤ 7293034 ∧ wp_X12_shut n817 s1 s0 S (fun r823 S822 => ∃ n824, x2 = some n824 ∧ st_t S822 n824 = some (12, 0) ∧ kc ≤ 601024 ∧ ks ≤ 7293034 ∧ wp_X12_thrown n824 S822 (fun r830 S829 => (r830 = x5 → (¬ x5 = 0 → wp_L_law_2166 b len xs x1 x2 x3 x4 S829 kc ks g Z23) ∧ (x5 = 0 → ∃ n831, x3 = some n831 ∧ ∃ z834, st_t S829 n831 = some (103, z834) ∧ vp_in (0 : Int32) z834 ∧ (r823 = 0 → wp_L_law_2160 b len xs x1 x2 x3 x4 (0 : Int64) (st_l S829 n831 ((0 : Int32)).toNatClampNeg) S829 kc ks g Z23) ∧ (¬ r823 = 0 → wp_L_law_2160 b len xs x1 x2 x3 x4 (1 : Int64) (st_l S829 n831 ((0 : Int32)).toNatClampNeg) S829 kc ks g Z23))) ∧ (¬ r830 = x5 → kc ≤ 601024 ∧ ks ≤ 7293034 ∧ g (0 : Int32) S829)))
set_option maxRecDepth 100000 in
set_option maxHeartbeats 4000000 in
theorem kp_L_law_2126 {K : xm_K} (b len : Nat) (xs : Nat → Int32) (x1 : Option Nat) (x2 : Option Nat) (x3 : Option Nat) (x4 : Int32) (x5 : Int32) (s0 : Int32) (s1 : Int32) (s2 : Option Nat) (S : xm_S) (kc ks : Nat) {g : Int32 → xm_S → Prop} {Z23 : Option Nat → Option Nat → Option Nat → Int32 → xm_S → Nat → Nat → Prop} (C : xm_Cx K cL_law RL 7 (some .boolean) rm_L_law) (N : xm_Nx K) (hSc : xm_Sc K b len xs) (hg : ∀ v S, g v S → xm_q K (some (xm_i v)) S) (hZ23 : ∀ x1 x2 x3 x4 S kc ks, Z23 x1 x2 x3 x4 S kc ks → xm_W K kc ks 23 [(0, xm_w0 b), (1, xm_r x1), (2, xm_r x2), (3, xm_r x3), (4, xm_i x4)] [] S) (h1 : wp_L_law_2126 b len xs x1 x2 x3 x4 x5 s0 s1 s2 S kc ks g Z23) : xm_W K kc ks 2126 [(0, xm_w0 b), (1, xm_r x1), (2, xm_r x2), (3, xm_r x3), (4, xm_i x4), (5, xm_i x5)] [xm_i s0, xm_i s1, xm_r s2] S := by
  unfold wp_L_law_2126 at h1
  obtain ⟨n817, hr818, h1⟩ := h1
  obtain ⟨ht819, h1⟩ := h1
  obtain ⟨hc820, hc821, h1⟩ := h1
  refine x_callV (rm' := rm_X12_shut) (n := n817) C (kp_X12_shut_met h1) lk_201 gw_1130 gw_1131 xv_12 rfl hr818 ht819 rfl (Nat.le_of_ble_eq_true rfl) ⟨Nat.le_of_ble_eq_true rfl, Nat.le_of_ble_eq_true rfl, hc820, hc821⟩ dL_law_2126 xm_kx (xm_ki (fun r823 S822 h1 => ?_))
  refine x_istore (L' := [(6, xm_i r823), (0, xm_w0 b), (1, xm_r x1), (2, xm_r x2), (3, xm_r x3), (4, xm_i x4), (5, xm_i x5)]) C dL_law_2129 (by decide) rfl ?_
  refine x_aload_n C 3 dL_law_2131 rfl rfl ?_
  obtain ⟨n824, hr825, h1⟩ := h1
  obtain ⟨ht826, h1⟩ := h1
  obtain ⟨hc827, hc828, h1⟩ := h1
  refine x_callV (rm' := rm_X12_thrown) (n := n824) C (kp_X12_thrown_met h1) lk_171 gw_941 gw_942 xv_12 rfl hr825 ht826 rfl (Nat.le_of_ble_eq_true rfl) ⟨Nat.le_of_ble_eq_true rfl, Nat.le_of_ble_eq_true rfl, hc827, hc828⟩ dL_law_2132 xm_kx (xm_ki (fun r830 S829 h1 => ?_))
  refine x_iload C 6 dL_law_2135 rfl ?_
  refine x_icmp_eq (tgt := 2142) C dL_law_2137 (by decide) (fun z9 => ?_) (fun z9 => ?_)
  · have h1 := h1.1 z9
    refine x_iload C 6 dL_law_2142 rfl ?_
    refine x_if_ne (tgt := 2166) C dL_law_2144 (by decide) (fun z9 => ?_) (fun z9 => ?_)
    · have h1 := h1.1 z9
      refine x_keep (L' := [(0, xm_w0 b), (1, xm_r x1), (2, xm_r x2), (3, xm_r x3), (4, xm_i x4)]) C [1, 2, 3, 4, 5] rfl ?_
      exact kp_L_law_2166 b len xs x1 x2 x3 x4 S829 kc ks C N hSc hg hZ23 h1
    · have h1 := h1.2 z9
      refine x_aload_n C 4 dL_law_2147 rfl rfl ?_
      refine x_iconst (v := (0 : Int32)) C dL_law_2148 (by decide) ?_
      obtain ⟨n831, hr832, h1⟩ := h1
      obtain ⟨z834, ht833, h1⟩ := h1
      obtain ⟨hi835, h1⟩ := h1
      refine x_lald (n := n831) C hr832 ht833 hi835 dL_law_2149 ?_
      refine x_iload C 0 dL_law_2150 rfl ?_
      refine x_if_eq (tgt := 2159) C dL_law_2152 (by decide) (fun z9 => ?_) (fun z9 => ?_)
      · have h1 := h1.1 z9
        refine x_lconst (v := (0 : Int64)) C dL_law_2159 (by decide) ?_
        refine x_keep (L' := [(0, xm_w0 b), (1, xm_r x1), (2, xm_r x2), (3, xm_r x3), (4, xm_i x4)]) C [1, 2, 3, 4, 5] rfl ?_
        exact kp_L_law_2160 b len xs x1 x2 x3 x4 (0 : Int64) (st_l S829 n831 ((0 : Int32)).toNatClampNeg) S829 kc ks C N hSc hg hZ23 h1
      · have h1 := h1.2 z9
        refine x_lconst (v := (1 : Int64)) C dL_law_2155 (by decide) ?_
        refine x_goto (tgt := 2160) C dL_law_2156 (by decide) ?_
        refine x_keep (L' := [(0, xm_w0 b), (1, xm_r x1), (2, xm_r x2), (3, xm_r x3), (4, xm_i x4)]) C [1, 2, 3, 4, 5] rfl ?_
        exact kp_L_law_2160 b len xs x1 x2 x3 x4 (1 : Int64) (st_l S829 n831 ((0 : Int32)).toNatClampNeg) S829 kc ks C N hSc hg hZ23 h1
  · have h1 := h1.2 z9
    refine x_iconst (v := (0 : Int32)) C dL_law_2140 (by decide) ?_
    obtain ⟨hc836, hc837, h1⟩ := h1
    exact x_zret C hc836 hc837 rfl (by decide) dL_law_2141 (hg _ _ h1)
def wp_L_law_2099 (b len : Nat) (xs : Nat → Int32) (x1 : Option Nat) (x2 : Option Nat) (x3 : Option Nat) (x4 : Int32) (s0 : Int32) (s1 : Int32) (s2 : Option Nat) (S : xm_S) (kc ks : Nat) (g : Int32 → xm_S → Prop) (Z23 : Option Nat → Option Nat → Option Nat → Int32 → xm_S → Nat → Nat → Prop) : Prop :=
  kc + 1 ≤ 601024 ∧ ks + 6 ≤ 7293034 ∧ wp_L_shut s2 s1 s0 x3 S (fun r841 S840 => vp_in (x4 + (1 : Int32)) len ∧ vp_in (x4 + (nI 2)) len ∧ ((xs ((x4 + (nI 2))).toNatClampNeg) = 0 → wp_L_law_2126 b len xs x1 x2 x3 x4 r841 (0 : Int32) (xs ((x4 + (1 : Int32))).toNatClampNeg) x2 S840 (kc + 1) (ks + 6) g Z23) ∧ (¬ (xs ((x4 + (nI 2))).toNatClampNeg) = 0 → wp_L_law_2126 b len xs x1 x2 x3 x4 r841 (1 : Int32) (xs ((x4 + (1 : Int32))).toNatClampNeg) x2 S840 (kc + 1) (ks + 6) g Z23))
set_option maxRecDepth 100000 in
set_option maxHeartbeats 4000000 in
theorem kp_L_law_2099 {K : xm_K} (b len : Nat) (xs : Nat → Int32) (x1 : Option Nat) (x2 : Option Nat) (x3 : Option Nat) (x4 : Int32) (s0 : Int32) (s1 : Int32) (s2 : Option Nat) (S : xm_S) (kc ks : Nat) {g : Int32 → xm_S → Prop} {Z23 : Option Nat → Option Nat → Option Nat → Int32 → xm_S → Nat → Nat → Prop} (C : xm_Cx K cL_law RL 7 (some .boolean) rm_L_law) (N : xm_Nx K) (hSc : xm_Sc K b len xs) (hg : ∀ v S, g v S → xm_q K (some (xm_i v)) S) (hZ23 : ∀ x1 x2 x3 x4 S kc ks, Z23 x1 x2 x3 x4 S kc ks → xm_W K kc ks 23 [(0, xm_w0 b), (1, xm_r x1), (2, xm_r x2), (3, xm_r x3), (4, xm_i x4)] [] S) (h1 : wp_L_law_2099 b len xs x1 x2 x3 x4 s0 s1 s2 S kc ks g Z23) : xm_W K kc ks 2099 [(0, xm_w0 b), (1, xm_r x1), (2, xm_r x2), (3, xm_r x3), (4, xm_i x4)] [xm_i s0, xm_i s1, xm_r s2] S := by
  unfold wp_L_law_2099 at h1
  refine x_aload_n C 3 dL_law_2099 rfl rfl ?_
  obtain ⟨hc838, hc839, h1⟩ := h1
  refine x_callSH (rm' := rm_L_shut) (hh := [(0, 17, 20, 21)]) C (kp_L_shut_met h1) gw_1132 gw_932 gw_1133 ⟨by decide, by decide, show Option.map _ (parseMethodDescriptor yL_shut.desc) = some 4 from by decide +kernel⟩ gw_1134 rfl (Nat.le_of_ble_eq_true rfl) ⟨Nat.le_of_ble_eq_true rfl, Nat.le_of_ble_eq_true rfl, hc838, hc839⟩ dL_law_2100 xm_kx (xm_ki (fun r841 S840 h1 => ?_))
  refine x_istore (L' := [(5, xm_i r841), (0, xm_w0 b), (1, xm_r x1), (2, xm_r x2), (3, xm_r x3), (4, xm_i x4)]) C dL_law_2103 (by decide) rfl ?_
  refine x_aload_n C 3 dL_law_2105 rfl rfl ?_
  refine x_aload_n_w C 1 dL_law_2106 rfl rfl ?_
  refine x_iload C 5 dL_law_2107 rfl ?_
  refine x_iconst (v := (1 : Int32)) C dL_law_2109 (by decide) ?_
  refine x_iadd C dL_law_2110 ?_
  obtain ⟨hi842, h1⟩ := h1
  refine x_sald C hSc hi842 dL_law_2111 ?_
  refine x_aload_n_w C 1 dL_law_2112 rfl rfl ?_
  refine x_iload C 5 dL_law_2113 rfl ?_
  refine x_iconst (v := (nI 2)) C dL_law_2115 (by decide) ?_
  refine x_iadd C dL_law_2116 ?_
  obtain ⟨hi843, h1⟩ := h1
  refine x_sald C hSc hi843 dL_law_2117 ?_
  refine x_if_eq (tgt := 2125) C dL_law_2118 (by decide) (fun z9 => ?_) (fun z9 => ?_)
  · have h1 := h1.1 z9
    refine x_iconst (v := (0 : Int32)) C dL_law_2125 (by decide) ?_
    refine x_keep (L' := [(0, xm_w0 b), (1, xm_r x1), (2, xm_r x2), (3, xm_r x3), (4, xm_i x4), (5, xm_i r841)]) C [1, 2, 3, 4, 5, 0] rfl ?_
    exact kp_L_law_2126 b len xs x1 x2 x3 x4 r841 (0 : Int32) (xs ((x4 + (1 : Int32))).toNatClampNeg) x2 S840 (kc + 1) (ks + 6) C N hSc hg hZ23 h1
  · have h1 := h1.2 z9
    refine x_iconst (v := (1 : Int32)) C dL_law_2121 (by decide) ?_
    refine x_goto (tgt := 2126) C dL_law_2122 (by decide) ?_
    refine x_keep (L' := [(0, xm_w0 b), (1, xm_r x1), (2, xm_r x2), (3, xm_r x3), (4, xm_i x4), (5, xm_i r841)]) C [1, 2, 3, 4, 5, 0] rfl ?_
    exact kp_L_law_2126 b len xs x1 x2 x3 x4 r841 (1 : Int32) (xs ((x4 + (1 : Int32))).toNatClampNeg) x2 S840 (kc + 1) (ks + 6) C N hSc hg hZ23 h1
def wp_L_law_2078 (b len : Nat) (xs : Nat → Int32) (x1 : Option Nat) (x2 : Option Nat) (x3 : Option Nat) (x4 : Int32) (S : xm_S) (kc ks : Nat) (g : Int32 → xm_S → Prop) (Z23 : Option Nat → Option Nat → Option Nat → Int32 → xm_S → Nat → Nat → Prop) : Prop :=
  vp_in (x4 + (1 : Int32)) len ∧ vp_in (x4 + (nI 2)) len ∧ ((xs ((x4 + (nI 2))).toNatClampNeg) = 0 → wp_L_law_2099 b len xs x1 x2 x3 x4 (0 : Int32) (xs ((x4 + (1 : Int32))).toNatClampNeg) x1 S kc ks g Z23) ∧ (¬ (xs ((x4 + (nI 2))).toNatClampNeg) = 0 → wp_L_law_2099 b len xs x1 x2 x3 x4 (1 : Int32) (xs ((x4 + (1 : Int32))).toNatClampNeg) x1 S kc ks g Z23)
set_option maxRecDepth 100000 in
set_option maxHeartbeats 4000000 in
theorem kp_L_law_2078 {K : xm_K} (b len : Nat) (xs : Nat → Int32) (x1 : Option Nat) (x2 : Option Nat) (x3 : Option Nat) (x4 : Int32) (S : xm_S) (kc ks : Nat) {g : Int32 → xm_S → Prop} {Z23 : Option Nat → Option Nat → Option Nat → Int32 → xm_S → Nat → Nat → Prop} (C : xm_Cx K cL_law RL 7 (some .boolean) rm_L_law) (N : xm_Nx K) (hSc : xm_Sc K b len xs) (hg : ∀ v S, g v S → xm_q K (some (xm_i v)) S) (hZ23 : ∀ x1 x2 x3 x4 S kc ks, Z23 x1 x2 x3 x4 S kc ks → xm_W K kc ks 23 [(0, xm_w0 b), (1, xm_r x1), (2, xm_r x2), (3, xm_r x3), (4, xm_i x4)] [] S) (h1 : wp_L_law_2078 b len xs x1 x2 x3 x4 S kc ks g Z23) : xm_W K kc ks 2078 [(0, xm_w0 b), (1, xm_r x1), (2, xm_r x2), (3, xm_r x3), (4, xm_i x4)] [] S := by
  unfold wp_L_law_2078 at h1
  refine x_aload_n C 1 dL_law_2078 rfl rfl ?_
  refine x_aload_n_w C 0 dL_law_2079 rfl rfl ?_
  refine x_iload C 4 dL_law_2080 rfl ?_
  refine x_iconst (v := (1 : Int32)) C dL_law_2082 (by decide) ?_
  refine x_iadd C dL_law_2083 ?_
  obtain ⟨hi844, h1⟩ := h1
  refine x_sald C hSc hi844 dL_law_2084 ?_
  refine x_aload_n_w C 0 dL_law_2085 rfl rfl ?_
  refine x_iload C 4 dL_law_2086 rfl ?_
  refine x_iconst (v := (nI 2)) C dL_law_2088 (by decide) ?_
  refine x_iadd C dL_law_2089 ?_
  obtain ⟨hi845, h1⟩ := h1
  refine x_sald C hSc hi845 dL_law_2090 ?_
  refine x_if_eq (tgt := 2098) C dL_law_2091 (by decide) (fun z9 => ?_) (fun z9 => ?_)
  · have h1 := h1.1 z9
    refine x_iconst (v := (0 : Int32)) C dL_law_2098 (by decide) ?_
    exact kp_L_law_2099 b len xs x1 x2 x3 x4 (0 : Int32) (xs ((x4 + (1 : Int32))).toNatClampNeg) x1 S kc ks C N hSc hg hZ23 h1
  · have h1 := h1.2 z9
    refine x_iconst (v := (1 : Int32)) C dL_law_2094 (by decide) ?_
    refine x_goto (tgt := 2099) C dL_law_2095 (by decide) ?_
    exact kp_L_law_2099 b len xs x1 x2 x3 x4 (1 : Int32) (xs ((x4 + (1 : Int32))).toNatClampNeg) x1 S kc ks C N hSc hg hZ23 h1
def wp_L_law_2234 (b len : Nat) (xs : Nat → Int32) (x1 : Option Nat) (x2 : Option Nat) (x3 : Option Nat) (x4 : Int32) (S : xm_S) (kc ks : Nat) (g : Int32 → xm_S → Prop) (Z23 : Option Nat → Option Nat → Option Nat → Int32 → xm_S → Nat → Nat → Prop) : Prop :=
  wp_L_law_2965 b len xs x1 x2 x3 x4 S kc ks g Z23
set_option maxRecDepth 100000 in
set_option maxHeartbeats 4000000 in
theorem kp_L_law_2234 {K : xm_K} (b len : Nat) (xs : Nat → Int32) (x1 : Option Nat) (x2 : Option Nat) (x3 : Option Nat) (x4 : Int32) (S : xm_S) (kc ks : Nat) {g : Int32 → xm_S → Prop} {Z23 : Option Nat → Option Nat → Option Nat → Int32 → xm_S → Nat → Nat → Prop} (C : xm_Cx K cL_law RL 7 (some .boolean) rm_L_law) (N : xm_Nx K) (hSc : xm_Sc K b len xs) (hg : ∀ v S, g v S → xm_q K (some (xm_i v)) S) (hZ23 : ∀ x1 x2 x3 x4 S kc ks, Z23 x1 x2 x3 x4 S kc ks → xm_W K kc ks 23 [(0, xm_w0 b), (1, xm_r x1), (2, xm_r x2), (3, xm_r x3), (4, xm_i x4)] [] S) (h1 : wp_L_law_2234 b len xs x1 x2 x3 x4 S kc ks g Z23) : xm_W K kc ks 2234 [(0, xm_w0 b), (1, xm_r x1), (2, xm_r x2), (3, xm_r x3), (4, xm_i x4)] [] S := by
  unfold wp_L_law_2234 at h1
  refine x_goto (tgt := 2965) C dL_law_2234 (by decide) ?_
  exact kp_L_law_2965 b len xs x1 x2 x3 x4 S kc ks C N hSc hg hZ23 h1
def wp_L_law_2169 (b len : Nat) (xs : Nat → Int32) (x1 : Option Nat) (x2 : Option Nat) (x3 : Option Nat) (x4 : Int32) (S : xm_S) (kc ks : Nat) (g : Int32 → xm_S → Prop) (Z23 : Option Nat → Option Nat → Option Nat → Int32 → xm_S → Nat → Nat → Prop) : Prop :=
  vp_in (x4 + (1 : Int32)) len ∧ vp_in (x4 + (nI 2)) len ∧ kc + 2 ≤ 601024 ∧ ks + 12 ≤ 7293034 ∧ wp_L_fetch x1 (xs ((x4 + (1 : Int32))).toNatClampNeg) (xs ((x4 + (nI 2))).toNatClampNeg) x3 S (fun r851 S850 => vp_in (x4 + (1 : Int32)) len ∧ vp_in (x4 + (nI 2)) len ∧ ∃ n854, x2 = some n854 ∧ st_t S850 n854 = some (12, 0) ∧ (kc + 2) ≤ 601024 ∧ (ks + 12) ≤ 7293034 ∧ wp_X12_fetch n854 (xs ((x4 + (1 : Int32))).toNatClampNeg) (xs ((x4 + (nI 2))).toNatClampNeg) S850 (fun r860 S859 => ∃ n861, x2 = some n861 ∧ st_t S859 n861 = some (12, 0) ∧ (kc + 2) ≤ 601024 ∧ (ks + 12) ≤ 7293034 ∧ wp_X12_thrown n861 S859 (fun r867 S866 => (r867 = r851 → (¬ r851 = 0 → wp_L_law_2234 b len xs x1 x2 x3 x4 S866 (kc + 2) (ks + 12) g Z23) ∧ (r851 = 0 → ∃ n868, x3 = some n868 ∧ ∃ z871, st_t S866 n868 = some (103, z871) ∧ vp_in (0 : Int32) z871 ∧ ((lg_cmp (st_l S866 n868 ((0 : Int32)).toNatClampNeg) ((r860).toInt64)) = 0 → wp_L_law_2234 b len xs x1 x2 x3 x4 S866 (kc + 2) (ks + 12) g Z23) ∧ (¬ (lg_cmp (st_l S866 n868 ((0 : Int32)).toNatClampNeg) ((r860).toInt64)) = 0 → (kc + 2) ≤ 601024 ∧ (ks + 12) ≤ 7293034 ∧ g (0 : Int32) S866))) ∧ (¬ r867 = r851 → (kc + 2) ≤ 601024 ∧ (ks + 12) ≤ 7293034 ∧ g (0 : Int32) S866))))
set_option maxRecDepth 100000 in
set_option maxHeartbeats 4000000 in
theorem kp_L_law_2169 {K : xm_K} (b len : Nat) (xs : Nat → Int32) (x1 : Option Nat) (x2 : Option Nat) (x3 : Option Nat) (x4 : Int32) (S : xm_S) (kc ks : Nat) {g : Int32 → xm_S → Prop} {Z23 : Option Nat → Option Nat → Option Nat → Int32 → xm_S → Nat → Nat → Prop} (C : xm_Cx K cL_law RL 7 (some .boolean) rm_L_law) (N : xm_Nx K) (hSc : xm_Sc K b len xs) (hg : ∀ v S, g v S → xm_q K (some (xm_i v)) S) (hZ23 : ∀ x1 x2 x3 x4 S kc ks, Z23 x1 x2 x3 x4 S kc ks → xm_W K kc ks 23 [(0, xm_w0 b), (1, xm_r x1), (2, xm_r x2), (3, xm_r x3), (4, xm_i x4)] [] S) (h1 : wp_L_law_2169 b len xs x1 x2 x3 x4 S kc ks g Z23) : xm_W K kc ks 2169 [(0, xm_w0 b), (1, xm_r x1), (2, xm_r x2), (3, xm_r x3), (4, xm_i x4)] [] S := by
  unfold wp_L_law_2169 at h1
  refine x_aload_n C 1 dL_law_2169 rfl rfl ?_
  refine x_aload_n_w C 0 dL_law_2170 rfl rfl ?_
  refine x_iload C 4 dL_law_2171 rfl ?_
  refine x_iconst (v := (1 : Int32)) C dL_law_2173 (by decide) ?_
  refine x_iadd C dL_law_2174 ?_
  obtain ⟨hi846, h1⟩ := h1
  refine x_sald C hSc hi846 dL_law_2175 ?_
  refine x_aload_n_w C 0 dL_law_2176 rfl rfl ?_
  refine x_iload C 4 dL_law_2177 rfl ?_
  refine x_iconst (v := (nI 2)) C dL_law_2179 (by decide) ?_
  refine x_iadd C dL_law_2180 ?_
  obtain ⟨hi847, h1⟩ := h1
  refine x_sald C hSc hi847 dL_law_2181 ?_
  refine x_aload_n C 3 dL_law_2182 rfl rfl ?_
  obtain ⟨hc848, hc849, h1⟩ := h1
  refine x_callSH (rm' := rm_L_fetch) (hh := [(0, 10, 13, 21)]) C (kp_L_fetch_met h1) gw_1135 gw_932 gw_1136 ⟨by decide, by decide, show Option.map _ (parseMethodDescriptor yL_fetch.desc) = some 4 from by decide +kernel⟩ gw_1137 rfl (Nat.le_of_ble_eq_true rfl) ⟨Nat.le_of_ble_eq_true rfl, Nat.le_of_ble_eq_true rfl, hc848, hc849⟩ dL_law_2183 xm_kx (xm_ki (fun r851 S850 h1 => ?_))
  refine x_istore (L' := [(5, xm_i r851), (0, xm_w0 b), (1, xm_r x1), (2, xm_r x2), (3, xm_r x3), (4, xm_i x4)]) C dL_law_2186 (by decide) rfl ?_
  refine x_aload_n C 3 dL_law_2188 rfl rfl ?_
  refine x_aload_n_w C 1 dL_law_2189 rfl rfl ?_
  refine x_iload C 5 dL_law_2190 rfl ?_
  refine x_iconst (v := (1 : Int32)) C dL_law_2192 (by decide) ?_
  refine x_iadd C dL_law_2193 ?_
  obtain ⟨hi852, h1⟩ := h1
  refine x_sald C hSc hi852 dL_law_2194 ?_
  refine x_aload_n_w C 1 dL_law_2195 rfl rfl ?_
  refine x_iload C 5 dL_law_2196 rfl ?_
  refine x_iconst (v := (nI 2)) C dL_law_2198 (by decide) ?_
  refine x_iadd C dL_law_2199 ?_
  obtain ⟨hi853, h1⟩ := h1
  refine x_sald C hSc hi853 dL_law_2200 ?_
  obtain ⟨n854, hr855, h1⟩ := h1
  obtain ⟨ht856, h1⟩ := h1
  obtain ⟨hc857, hc858, h1⟩ := h1
  refine x_callV (rm' := rm_X12_fetch) (n := n854) C (kp_X12_fetch_met h1) lk_202 gw_1140 gw_1141 xv_12 rfl hr855 ht856 rfl (Nat.le_of_ble_eq_true rfl) ⟨Nat.le_of_ble_eq_true rfl, Nat.le_of_ble_eq_true rfl, hc857, hc858⟩ dL_law_2201 xm_kx (xm_ki (fun r860 S859 h1 => ?_))
  refine x_istore (L' := [(6, xm_i r860), (5, xm_i r851), (0, xm_w0 b), (1, xm_r x1), (2, xm_r x2), (3, xm_r x3), (4, xm_i x4)]) C dL_law_2204 (by decide) rfl ?_
  refine x_aload_n C 4 dL_law_2206 rfl rfl ?_
  obtain ⟨n861, hr862, h1⟩ := h1
  obtain ⟨ht863, h1⟩ := h1
  obtain ⟨hc864, hc865, h1⟩ := h1
  refine x_callV (rm' := rm_X12_thrown) (n := n861) C (kp_X12_thrown_met h1) lk_171 gw_941 gw_942 xv_12 rfl hr862 ht863 rfl (Nat.le_of_ble_eq_true rfl) ⟨Nat.le_of_ble_eq_true rfl, Nat.le_of_ble_eq_true rfl, hc864, hc865⟩ dL_law_2207 xm_kx (xm_ki (fun r867 S866 h1 => ?_))
  refine x_iload C 1 dL_law_2210 rfl ?_
  refine x_icmp_eq (tgt := 2217) C dL_law_2212 (by decide) (fun z9 => ?_) (fun z9 => ?_)
  · have h1 := h1.1 z9
    refine x_iload C 1 dL_law_2217 rfl ?_
    refine x_if_ne (tgt := 2234) C dL_law_2219 (by decide) (fun z9 => ?_) (fun z9 => ?_)
    · have h1 := h1.1 z9
      refine x_keep (L' := [(0, xm_w0 b), (1, xm_r x1), (2, xm_r x2), (3, xm_r x3), (4, xm_i x4)]) C [2, 3, 4, 5, 6] rfl ?_
      exact kp_L_law_2234 b len xs x1 x2 x3 x4 S866 (kc + 2) (ks + 12) C N hSc hg hZ23 h1
    · have h1 := h1.2 z9
      refine x_aload_n C 5 dL_law_2222 rfl rfl ?_
      refine x_iconst (v := (0 : Int32)) C dL_law_2223 (by decide) ?_
      obtain ⟨n868, hr869, h1⟩ := h1
      obtain ⟨z871, ht870, h1⟩ := h1
      obtain ⟨hi872, h1⟩ := h1
      refine x_lald (n := n868) C hr869 ht870 hi872 dL_law_2224 ?_
      refine x_iload C 0 dL_law_2225 rfl ?_
      refine x_i2l C dL_law_2227 ?_
      refine x_lcmp C dL_law_2228 ?_
      refine x_if_eq (tgt := 2234) C dL_law_2229 (by decide) (fun z9 => ?_) (fun z9 => ?_)
      · have h1 := h1.1 z9
        refine x_keep (L' := [(0, xm_w0 b), (1, xm_r x1), (2, xm_r x2), (3, xm_r x3), (4, xm_i x4)]) C [2, 3, 4, 5, 6] rfl ?_
        exact kp_L_law_2234 b len xs x1 x2 x3 x4 S866 (kc + 2) (ks + 12) C N hSc hg hZ23 h1
      · have h1 := h1.2 z9
        refine x_iconst (v := (0 : Int32)) C dL_law_2232 (by decide) ?_
        obtain ⟨hc873, hc874, h1⟩ := h1
        exact x_zret C hc873 hc874 rfl (by decide) dL_law_2233 (hg _ _ h1)
  · have h1 := h1.2 z9
    refine x_iconst (v := (0 : Int32)) C dL_law_2215 (by decide) ?_
    obtain ⟨hc875, hc876, h1⟩ := h1
    exact x_zret C hc875 hc876 rfl (by decide) dL_law_2216 (hg _ _ h1)
def wp_L_law_2290 (b len : Nat) (xs : Nat → Int32) (x1 : Option Nat) (x2 : Option Nat) (x3 : Option Nat) (x4 : Int32) (S : xm_S) (kc ks : Nat) (g : Int32 → xm_S → Prop) (Z23 : Option Nat → Option Nat → Option Nat → Int32 → xm_S → Nat → Nat → Prop) : Prop :=
  wp_L_law_2965 b len xs x1 x2 x3 x4 S kc ks g Z23
set_option maxRecDepth 100000 in
set_option maxHeartbeats 4000000 in
theorem kp_L_law_2290 {K : xm_K} (b len : Nat) (xs : Nat → Int32) (x1 : Option Nat) (x2 : Option Nat) (x3 : Option Nat) (x4 : Int32) (S : xm_S) (kc ks : Nat) {g : Int32 → xm_S → Prop} {Z23 : Option Nat → Option Nat → Option Nat → Int32 → xm_S → Nat → Nat → Prop} (C : xm_Cx K cL_law RL 7 (some .boolean) rm_L_law) (N : xm_Nx K) (hSc : xm_Sc K b len xs) (hg : ∀ v S, g v S → xm_q K (some (xm_i v)) S) (hZ23 : ∀ x1 x2 x3 x4 S kc ks, Z23 x1 x2 x3 x4 S kc ks → xm_W K kc ks 23 [(0, xm_w0 b), (1, xm_r x1), (2, xm_r x2), (3, xm_r x3), (4, xm_i x4)] [] S) (h1 : wp_L_law_2290 b len xs x1 x2 x3 x4 S kc ks g Z23) : xm_W K kc ks 2290 [(0, xm_w0 b), (1, xm_r x1), (2, xm_r x2), (3, xm_r x3), (4, xm_i x4)] [] S := by
  unfold wp_L_law_2290 at h1
  refine x_goto (tgt := 2965) C dL_law_2290 (by decide) ?_
  exact kp_L_law_2965 b len xs x1 x2 x3 x4 S kc ks C N hSc hg hZ23 h1
def wp_L_law_2237 (b len : Nat) (xs : Nat → Int32) (x1 : Option Nat) (x2 : Option Nat) (x3 : Option Nat) (x4 : Int32) (S : xm_S) (kc ks : Nat) (g : Int32 → xm_S → Prop) (Z23 : Option Nat → Option Nat → Option Nat → Int32 → xm_S → Nat → Nat → Prop) : Prop :=
  vp_in (x4 + (1 : Int32)) len ∧ kc + 1 ≤ 601024 ∧ ks + 6 ≤ 7293034 ∧ wp_L_lies x1 (xs ((x4 + (1 : Int32))).toNatClampNeg) x3 S (fun r881 S880 => vp_in (x4 + (1 : Int32)) len ∧ ∃ n883, x2 = some n883 ∧ st_t S880 n883 = some (12, 0) ∧ (kc + 1) ≤ 601024 ∧ (ks + 6) ≤ 7293034 ∧ wp_X12_lies n883 (xs ((x4 + (1 : Int32))).toNatClampNeg) S880 (fun r889 S888 => ∃ n890, x2 = some n890 ∧ st_t S888 n890 = some (12, 0) ∧ (kc + 1) ≤ 601024 ∧ (ks + 6) ≤ 7293034 ∧ wp_X12_thrown n890 S888 (fun r896 S895 => (r896 = r881 → (¬ r881 = 0 → wp_L_law_2290 b len xs x1 x2 x3 x4 S895 (kc + 1) (ks + 6) g Z23) ∧ (r881 = 0 → ∃ n897, x3 = some n897 ∧ ∃ z900, st_t S895 n897 = some (103, z900) ∧ vp_in (0 : Int32) z900 ∧ ((lg_cmp (st_l S895 n897 ((0 : Int32)).toNatClampNeg) ((r889).toInt64)) = 0 → wp_L_law_2290 b len xs x1 x2 x3 x4 S895 (kc + 1) (ks + 6) g Z23) ∧ (¬ (lg_cmp (st_l S895 n897 ((0 : Int32)).toNatClampNeg) ((r889).toInt64)) = 0 → (kc + 1) ≤ 601024 ∧ (ks + 6) ≤ 7293034 ∧ g (0 : Int32) S895))) ∧ (¬ r896 = r881 → (kc + 1) ≤ 601024 ∧ (ks + 6) ≤ 7293034 ∧ g (0 : Int32) S895))))
set_option maxRecDepth 100000 in
set_option maxHeartbeats 4000000 in
theorem kp_L_law_2237 {K : xm_K} (b len : Nat) (xs : Nat → Int32) (x1 : Option Nat) (x2 : Option Nat) (x3 : Option Nat) (x4 : Int32) (S : xm_S) (kc ks : Nat) {g : Int32 → xm_S → Prop} {Z23 : Option Nat → Option Nat → Option Nat → Int32 → xm_S → Nat → Nat → Prop} (C : xm_Cx K cL_law RL 7 (some .boolean) rm_L_law) (N : xm_Nx K) (hSc : xm_Sc K b len xs) (hg : ∀ v S, g v S → xm_q K (some (xm_i v)) S) (hZ23 : ∀ x1 x2 x3 x4 S kc ks, Z23 x1 x2 x3 x4 S kc ks → xm_W K kc ks 23 [(0, xm_w0 b), (1, xm_r x1), (2, xm_r x2), (3, xm_r x3), (4, xm_i x4)] [] S) (h1 : wp_L_law_2237 b len xs x1 x2 x3 x4 S kc ks g Z23) : xm_W K kc ks 2237 [(0, xm_w0 b), (1, xm_r x1), (2, xm_r x2), (3, xm_r x3), (4, xm_i x4)] [] S := by
  unfold wp_L_law_2237 at h1
  refine x_aload_n C 1 dL_law_2237 rfl rfl ?_
  refine x_aload_n_w C 0 dL_law_2238 rfl rfl ?_
  refine x_iload C 4 dL_law_2239 rfl ?_
  refine x_iconst (v := (1 : Int32)) C dL_law_2241 (by decide) ?_
  refine x_iadd C dL_law_2242 ?_
  obtain ⟨hi877, h1⟩ := h1
  refine x_sald C hSc hi877 dL_law_2243 ?_
  refine x_aload_n C 3 dL_law_2244 rfl rfl ?_
  obtain ⟨hc878, hc879, h1⟩ := h1
  refine x_callSH (rm' := rm_L_lies) (hh := [(0, 9, 12, 21)]) C (kp_L_lies_met h1) gw_1142 gw_932 gw_1143 ⟨by decide, by decide, show Option.map _ (parseMethodDescriptor yL_lies.desc) = some 3 from by decide +kernel⟩ gw_1144 rfl (Nat.le_of_ble_eq_true rfl) ⟨Nat.le_of_ble_eq_true rfl, Nat.le_of_ble_eq_true rfl, hc878, hc879⟩ dL_law_2245 xm_kx (xm_ki (fun r881 S880 h1 => ?_))
  refine x_istore (L' := [(5, xm_i r881), (0, xm_w0 b), (1, xm_r x1), (2, xm_r x2), (3, xm_r x3), (4, xm_i x4)]) C dL_law_2248 (by decide) rfl ?_
  refine x_aload_n C 3 dL_law_2250 rfl rfl ?_
  refine x_aload_n_w C 1 dL_law_2251 rfl rfl ?_
  refine x_iload C 5 dL_law_2252 rfl ?_
  refine x_iconst (v := (1 : Int32)) C dL_law_2254 (by decide) ?_
  refine x_iadd C dL_law_2255 ?_
  obtain ⟨hi882, h1⟩ := h1
  refine x_sald C hSc hi882 dL_law_2256 ?_
  obtain ⟨n883, hr884, h1⟩ := h1
  obtain ⟨ht885, h1⟩ := h1
  obtain ⟨hc886, hc887, h1⟩ := h1
  refine x_callV (rm' := rm_X12_lies) (n := n883) C (kp_X12_lies_met h1) lk_203 gw_1147 gw_1148 xv_12 rfl hr884 ht885 rfl (Nat.le_of_ble_eq_true rfl) ⟨Nat.le_of_ble_eq_true rfl, Nat.le_of_ble_eq_true rfl, hc886, hc887⟩ dL_law_2257 xm_kx (xm_ki (fun r889 S888 h1 => ?_))
  refine x_istore (L' := [(6, xm_i r889), (5, xm_i r881), (0, xm_w0 b), (1, xm_r x1), (2, xm_r x2), (3, xm_r x3), (4, xm_i x4)]) C dL_law_2260 (by decide) rfl ?_
  refine x_aload_n C 4 dL_law_2262 rfl rfl ?_
  obtain ⟨n890, hr891, h1⟩ := h1
  obtain ⟨ht892, h1⟩ := h1
  obtain ⟨hc893, hc894, h1⟩ := h1
  refine x_callV (rm' := rm_X12_thrown) (n := n890) C (kp_X12_thrown_met h1) lk_171 gw_941 gw_942 xv_12 rfl hr891 ht892 rfl (Nat.le_of_ble_eq_true rfl) ⟨Nat.le_of_ble_eq_true rfl, Nat.le_of_ble_eq_true rfl, hc893, hc894⟩ dL_law_2263 xm_kx (xm_ki (fun r896 S895 h1 => ?_))
  refine x_iload C 1 dL_law_2266 rfl ?_
  refine x_icmp_eq (tgt := 2273) C dL_law_2268 (by decide) (fun z9 => ?_) (fun z9 => ?_)
  · have h1 := h1.1 z9
    refine x_iload C 1 dL_law_2273 rfl ?_
    refine x_if_ne (tgt := 2290) C dL_law_2275 (by decide) (fun z9 => ?_) (fun z9 => ?_)
    · have h1 := h1.1 z9
      refine x_keep (L' := [(0, xm_w0 b), (1, xm_r x1), (2, xm_r x2), (3, xm_r x3), (4, xm_i x4)]) C [2, 3, 4, 5, 6] rfl ?_
      exact kp_L_law_2290 b len xs x1 x2 x3 x4 S895 (kc + 1) (ks + 6) C N hSc hg hZ23 h1
    · have h1 := h1.2 z9
      refine x_aload_n C 5 dL_law_2278 rfl rfl ?_
      refine x_iconst (v := (0 : Int32)) C dL_law_2279 (by decide) ?_
      obtain ⟨n897, hr898, h1⟩ := h1
      obtain ⟨z900, ht899, h1⟩ := h1
      obtain ⟨hi901, h1⟩ := h1
      refine x_lald (n := n897) C hr898 ht899 hi901 dL_law_2280 ?_
      refine x_iload C 0 dL_law_2281 rfl ?_
      refine x_i2l C dL_law_2283 ?_
      refine x_lcmp C dL_law_2284 ?_
      refine x_if_eq (tgt := 2290) C dL_law_2285 (by decide) (fun z9 => ?_) (fun z9 => ?_)
      · have h1 := h1.1 z9
        refine x_keep (L' := [(0, xm_w0 b), (1, xm_r x1), (2, xm_r x2), (3, xm_r x3), (4, xm_i x4)]) C [2, 3, 4, 5, 6] rfl ?_
        exact kp_L_law_2290 b len xs x1 x2 x3 x4 S895 (kc + 1) (ks + 6) C N hSc hg hZ23 h1
      · have h1 := h1.2 z9
        refine x_iconst (v := (0 : Int32)) C dL_law_2288 (by decide) ?_
        obtain ⟨hc902, hc903, h1⟩ := h1
        exact x_zret C hc902 hc903 rfl (by decide) dL_law_2289 (hg _ _ h1)
  · have h1 := h1.2 z9
    refine x_iconst (v := (0 : Int32)) C dL_law_2271 (by decide) ?_
    obtain ⟨hc904, hc905, h1⟩ := h1
    exact x_zret C hc904 hc905 rfl (by decide) dL_law_2272 (hg _ _ h1)
def wp_L_law_2410 (b len : Nat) (xs : Nat → Int32) (x1 : Option Nat) (x2 : Option Nat) (x3 : Option Nat) (x4 : Int32) (S : xm_S) (kc ks : Nat) (g : Int32 → xm_S → Prop) (Z23 : Option Nat → Option Nat → Option Nat → Int32 → xm_S → Nat → Nat → Prop) : Prop :=
  wp_L_law_2965 b len xs x1 x2 x3 x4 S kc ks g Z23
set_option maxRecDepth 100000 in
set_option maxHeartbeats 4000000 in
theorem kp_L_law_2410 {K : xm_K} (b len : Nat) (xs : Nat → Int32) (x1 : Option Nat) (x2 : Option Nat) (x3 : Option Nat) (x4 : Int32) (S : xm_S) (kc ks : Nat) {g : Int32 → xm_S → Prop} {Z23 : Option Nat → Option Nat → Option Nat → Int32 → xm_S → Nat → Nat → Prop} (C : xm_Cx K cL_law RL 7 (some .boolean) rm_L_law) (N : xm_Nx K) (hSc : xm_Sc K b len xs) (hg : ∀ v S, g v S → xm_q K (some (xm_i v)) S) (hZ23 : ∀ x1 x2 x3 x4 S kc ks, Z23 x1 x2 x3 x4 S kc ks → xm_W K kc ks 23 [(0, xm_w0 b), (1, xm_r x1), (2, xm_r x2), (3, xm_r x3), (4, xm_i x4)] [] S) (h1 : wp_L_law_2410 b len xs x1 x2 x3 x4 S kc ks g Z23) : xm_W K kc ks 2410 [(0, xm_w0 b), (1, xm_r x1), (2, xm_r x2), (3, xm_r x3), (4, xm_i x4)] [] S := by
  unfold wp_L_law_2410 at h1
  refine x_goto (tgt := 2965) C dL_law_2410 (by decide) ?_
  exact kp_L_law_2965 b len xs x1 x2 x3 x4 S kc ks C N hSc hg hZ23 h1
def wp_L_law_2377 (b len : Nat) (xs : Nat → Int32) (x1 : Option Nat) (x2 : Option Nat) (x3 : Option Nat) (x4 : Int32) (x5 : Int32) (s0 : Int32) (s1 : Int32) (s2 : Int32) (s3 : Int32) (s4 : Int32) (s5 : Option Nat) (S : xm_S) (kc ks : Nat) (g : Int32 → xm_S → Prop) (Z23 : Option Nat → Option Nat → Option Nat → Int32 → xm_S → Nat → Nat → Prop) : Prop :=
  ∃ n906, s5 = some n906 ∧ st_t S n906 = some (12, 0) ∧ kc ≤ 601024 ∧ ks ≤ 7293034 ∧ wp_X12_file n906 s4 s3 s2 s1 s0 S (fun r912 S911 => ∃ n913, x2 = some n913 ∧ st_t S911 n913 = some (12, 0) ∧ kc ≤ 601024 ∧ ks ≤ 7293034 ∧ wp_X12_thrown n913 S911 (fun r919 S918 => (r919 = x5 → (¬ x5 = 0 → wp_L_law_2410 b len xs x1 x2 x3 x4 S918 kc ks g Z23) ∧ (x5 = 0 → ∃ n920, x3 = some n920 ∧ ∃ z923, st_t S918 n920 = some (103, z923) ∧ vp_in (0 : Int32) z923 ∧ ((lg_cmp (st_l S918 n920 ((0 : Int32)).toNatClampNeg) ((r912).toInt64)) = 0 → wp_L_law_2410 b len xs x1 x2 x3 x4 S918 kc ks g Z23) ∧ (¬ (lg_cmp (st_l S918 n920 ((0 : Int32)).toNatClampNeg) ((r912).toInt64)) = 0 → kc ≤ 601024 ∧ ks ≤ 7293034 ∧ g (0 : Int32) S918))) ∧ (¬ r919 = x5 → kc ≤ 601024 ∧ ks ≤ 7293034 ∧ g (0 : Int32) S918)))
set_option maxRecDepth 100000 in
set_option maxHeartbeats 4000000 in
theorem kp_L_law_2377 {K : xm_K} (b len : Nat) (xs : Nat → Int32) (x1 : Option Nat) (x2 : Option Nat) (x3 : Option Nat) (x4 : Int32) (x5 : Int32) (s0 : Int32) (s1 : Int32) (s2 : Int32) (s3 : Int32) (s4 : Int32) (s5 : Option Nat) (S : xm_S) (kc ks : Nat) {g : Int32 → xm_S → Prop} {Z23 : Option Nat → Option Nat → Option Nat → Int32 → xm_S → Nat → Nat → Prop} (C : xm_Cx K cL_law RL 7 (some .boolean) rm_L_law) (N : xm_Nx K) (hSc : xm_Sc K b len xs) (hg : ∀ v S, g v S → xm_q K (some (xm_i v)) S) (hZ23 : ∀ x1 x2 x3 x4 S kc ks, Z23 x1 x2 x3 x4 S kc ks → xm_W K kc ks 23 [(0, xm_w0 b), (1, xm_r x1), (2, xm_r x2), (3, xm_r x3), (4, xm_i x4)] [] S) (h1 : wp_L_law_2377 b len xs x1 x2 x3 x4 x5 s0 s1 s2 s3 s4 s5 S kc ks g Z23) : xm_W K kc ks 2377 [(0, xm_w0 b), (1, xm_r x1), (2, xm_r x2), (3, xm_r x3), (4, xm_i x4), (5, xm_i x5)] [xm_i s0, xm_i s1, xm_i s2, xm_i s3, xm_i s4, xm_r s5] S := by
  unfold wp_L_law_2377 at h1
  obtain ⟨n906, hr907, h1⟩ := h1
  obtain ⟨ht908, h1⟩ := h1
  obtain ⟨hc909, hc910, h1⟩ := h1
  refine x_callV (rm' := rm_X12_file) (n := n906) C (kp_X12_file_met h1) lk_204 gw_1151 gw_1152 xv_12 rfl hr907 ht908 rfl (Nat.le_of_ble_eq_true rfl) ⟨Nat.le_of_ble_eq_true rfl, Nat.le_of_ble_eq_true rfl, hc909, hc910⟩ dL_law_2377 xm_kx (xm_ki (fun r912 S911 h1 => ?_))
  refine x_istore (L' := [(6, xm_i r912), (0, xm_w0 b), (1, xm_r x1), (2, xm_r x2), (3, xm_r x3), (4, xm_i x4), (5, xm_i x5)]) C dL_law_2380 (by decide) rfl ?_
  refine x_aload_n C 3 dL_law_2382 rfl rfl ?_
  obtain ⟨n913, hr914, h1⟩ := h1
  obtain ⟨ht915, h1⟩ := h1
  obtain ⟨hc916, hc917, h1⟩ := h1
  refine x_callV (rm' := rm_X12_thrown) (n := n913) C (kp_X12_thrown_met h1) lk_171 gw_941 gw_942 xv_12 rfl hr914 ht915 rfl (Nat.le_of_ble_eq_true rfl) ⟨Nat.le_of_ble_eq_true rfl, Nat.le_of_ble_eq_true rfl, hc916, hc917⟩ dL_law_2383 xm_kx (xm_ki (fun r919 S918 h1 => ?_))
  refine x_iload C 6 dL_law_2386 rfl ?_
  refine x_icmp_eq (tgt := 2393) C dL_law_2388 (by decide) (fun z9 => ?_) (fun z9 => ?_)
  · have h1 := h1.1 z9
    refine x_iload C 6 dL_law_2393 rfl ?_
    refine x_if_ne (tgt := 2410) C dL_law_2395 (by decide) (fun z9 => ?_) (fun z9 => ?_)
    · have h1 := h1.1 z9
      refine x_keep (L' := [(0, xm_w0 b), (1, xm_r x1), (2, xm_r x2), (3, xm_r x3), (4, xm_i x4)]) C [1, 2, 3, 4, 5] rfl ?_
      exact kp_L_law_2410 b len xs x1 x2 x3 x4 S918 kc ks C N hSc hg hZ23 h1
    · have h1 := h1.2 z9
      refine x_aload_n C 4 dL_law_2398 rfl rfl ?_
      refine x_iconst (v := (0 : Int32)) C dL_law_2399 (by decide) ?_
      obtain ⟨n920, hr921, h1⟩ := h1
      obtain ⟨z923, ht922, h1⟩ := h1
      obtain ⟨hi924, h1⟩ := h1
      refine x_lald (n := n920) C hr921 ht922 hi924 dL_law_2400 ?_
      refine x_iload C 0 dL_law_2401 rfl ?_
      refine x_i2l C dL_law_2403 ?_
      refine x_lcmp C dL_law_2404 ?_
      refine x_if_eq (tgt := 2410) C dL_law_2405 (by decide) (fun z9 => ?_) (fun z9 => ?_)
      · have h1 := h1.1 z9
        refine x_keep (L' := [(0, xm_w0 b), (1, xm_r x1), (2, xm_r x2), (3, xm_r x3), (4, xm_i x4)]) C [1, 2, 3, 4, 5] rfl ?_
        exact kp_L_law_2410 b len xs x1 x2 x3 x4 S918 kc ks C N hSc hg hZ23 h1
      · have h1 := h1.2 z9
        refine x_iconst (v := (0 : Int32)) C dL_law_2408 (by decide) ?_
        obtain ⟨hc925, hc926, h1⟩ := h1
        exact x_zret C hc925 hc926 rfl (by decide) dL_law_2409 (hg _ _ h1)
  · have h1 := h1.2 z9
    refine x_iconst (v := (0 : Int32)) C dL_law_2391 (by decide) ?_
    obtain ⟨hc927, hc928, h1⟩ := h1
    exact x_zret C hc927 hc928 rfl (by decide) dL_law_2392 (hg _ _ h1)
def wp_L_law_2332 (b len : Nat) (xs : Nat → Int32) (x1 : Option Nat) (x2 : Option Nat) (x3 : Option Nat) (x4 : Int32) (s0 : Int32) (s1 : Int32) (s2 : Int32) (s3 : Int32) (s4 : Int32) (s5 : Option Nat) (S : xm_S) (kc ks : Nat) (g : Int32 → xm_S → Prop) (Z23 : Option Nat → Option Nat → Option Nat → Int32 → xm_S → Nat → Nat → Prop) : Prop :=
  kc + 5 ≤ 601024 ∧ ks + 30 ≤ 7293034 ∧ wp_L_file s5 s4 s3 s2 s1 s0 x3 S (fun r932 S931 => vp_in (x4 + (1 : Int32)) len ∧ vp_in (x4 + (nI 2)) len ∧ vp_in (x4 + (nI 3)) len ∧ vp_in (x4 + (nI 4)) len ∧ vp_in (x4 + (nI 5)) len ∧ ((xs ((x4 + (nI 5))).toNatClampNeg) = 0 → wp_L_law_2377 b len xs x1 x2 x3 x4 r932 (0 : Int32) (xs ((x4 + (nI 4))).toNatClampNeg) (xs ((x4 + (nI 3))).toNatClampNeg) (xs ((x4 + (nI 2))).toNatClampNeg) (xs ((x4 + (1 : Int32))).toNatClampNeg) x2 S931 (kc + 5) (ks + 30) g Z23) ∧ (¬ (xs ((x4 + (nI 5))).toNatClampNeg) = 0 → wp_L_law_2377 b len xs x1 x2 x3 x4 r932 (1 : Int32) (xs ((x4 + (nI 4))).toNatClampNeg) (xs ((x4 + (nI 3))).toNatClampNeg) (xs ((x4 + (nI 2))).toNatClampNeg) (xs ((x4 + (1 : Int32))).toNatClampNeg) x2 S931 (kc + 5) (ks + 30) g Z23))
set_option maxRecDepth 100000 in
set_option maxHeartbeats 4000000 in
theorem kp_L_law_2332 {K : xm_K} (b len : Nat) (xs : Nat → Int32) (x1 : Option Nat) (x2 : Option Nat) (x3 : Option Nat) (x4 : Int32) (s0 : Int32) (s1 : Int32) (s2 : Int32) (s3 : Int32) (s4 : Int32) (s5 : Option Nat) (S : xm_S) (kc ks : Nat) {g : Int32 → xm_S → Prop} {Z23 : Option Nat → Option Nat → Option Nat → Int32 → xm_S → Nat → Nat → Prop} (C : xm_Cx K cL_law RL 7 (some .boolean) rm_L_law) (N : xm_Nx K) (hSc : xm_Sc K b len xs) (hg : ∀ v S, g v S → xm_q K (some (xm_i v)) S) (hZ23 : ∀ x1 x2 x3 x4 S kc ks, Z23 x1 x2 x3 x4 S kc ks → xm_W K kc ks 23 [(0, xm_w0 b), (1, xm_r x1), (2, xm_r x2), (3, xm_r x3), (4, xm_i x4)] [] S) (h1 : wp_L_law_2332 b len xs x1 x2 x3 x4 s0 s1 s2 s3 s4 s5 S kc ks g Z23) : xm_W K kc ks 2332 [(0, xm_w0 b), (1, xm_r x1), (2, xm_r x2), (3, xm_r x3), (4, xm_i x4)] [xm_i s0, xm_i s1, xm_i s2, xm_i s3, xm_i s4, xm_r s5] S := by
  unfold wp_L_law_2332 at h1
  refine x_aload_n C 3 dL_law_2332 rfl rfl ?_
  obtain ⟨hc929, hc930, h1⟩ := h1
  refine x_callSH (rm' := rm_L_file) (hh := [(0, 16, 19, 21), (0, 16, 23, 13), (0, 16, 27, 15)]) C (kp_L_file_met h1) gw_1153 gw_932 gw_1154 ⟨by decide, by decide, show Option.map _ (parseMethodDescriptor yL_file.desc) = some 7 from by decide +kernel⟩ gw_1155 rfl (Nat.le_of_ble_eq_true rfl) ⟨Nat.le_of_ble_eq_true rfl, Nat.le_of_ble_eq_true rfl, hc929, hc930⟩ dL_law_2333 xm_kx (xm_ki (fun r932 S931 h1 => ?_))
  refine x_istore (L' := [(5, xm_i r932), (0, xm_w0 b), (1, xm_r x1), (2, xm_r x2), (3, xm_r x3), (4, xm_i x4)]) C dL_law_2336 (by decide) rfl ?_
  refine x_aload_n C 3 dL_law_2338 rfl rfl ?_
  refine x_aload_n_w C 1 dL_law_2339 rfl rfl ?_
  refine x_iload C 5 dL_law_2340 rfl ?_
  refine x_iconst (v := (1 : Int32)) C dL_law_2342 (by decide) ?_
  refine x_iadd C dL_law_2343 ?_
  obtain ⟨hi933, h1⟩ := h1
  refine x_sald C hSc hi933 dL_law_2344 ?_
  refine x_aload_n_w C 1 dL_law_2345 rfl rfl ?_
  refine x_iload C 5 dL_law_2346 rfl ?_
  refine x_iconst (v := (nI 2)) C dL_law_2348 (by decide) ?_
  refine x_iadd C dL_law_2349 ?_
  obtain ⟨hi934, h1⟩ := h1
  refine x_sald C hSc hi934 dL_law_2350 ?_
  refine x_aload_n_w C 1 dL_law_2351 rfl rfl ?_
  refine x_iload C 5 dL_law_2352 rfl ?_
  refine x_iconst (v := (nI 3)) C dL_law_2354 (by decide) ?_
  refine x_iadd C dL_law_2355 ?_
  obtain ⟨hi935, h1⟩ := h1
  refine x_sald C hSc hi935 dL_law_2356 ?_
  refine x_aload_n_w C 1 dL_law_2357 rfl rfl ?_
  refine x_iload C 5 dL_law_2358 rfl ?_
  refine x_iconst (v := (nI 4)) C dL_law_2360 (by decide) ?_
  refine x_iadd C dL_law_2361 ?_
  obtain ⟨hi936, h1⟩ := h1
  refine x_sald C hSc hi936 dL_law_2362 ?_
  refine x_aload_n_w C 1 dL_law_2363 rfl rfl ?_
  refine x_iload C 5 dL_law_2364 rfl ?_
  refine x_iconst (v := (nI 5)) C dL_law_2366 (by decide) ?_
  refine x_iadd C dL_law_2367 ?_
  obtain ⟨hi937, h1⟩ := h1
  refine x_sald C hSc hi937 dL_law_2368 ?_
  refine x_if_eq (tgt := 2376) C dL_law_2369 (by decide) (fun z9 => ?_) (fun z9 => ?_)
  · have h1 := h1.1 z9
    refine x_iconst (v := (0 : Int32)) C dL_law_2376 (by decide) ?_
    refine x_keep (L' := [(0, xm_w0 b), (1, xm_r x1), (2, xm_r x2), (3, xm_r x3), (4, xm_i x4), (5, xm_i r932)]) C [1, 2, 3, 4, 5, 0] rfl ?_
    exact kp_L_law_2377 b len xs x1 x2 x3 x4 r932 (0 : Int32) (xs ((x4 + (nI 4))).toNatClampNeg) (xs ((x4 + (nI 3))).toNatClampNeg) (xs ((x4 + (nI 2))).toNatClampNeg) (xs ((x4 + (1 : Int32))).toNatClampNeg) x2 S931 (kc + 5) (ks + 30) C N hSc hg hZ23 h1
  · have h1 := h1.2 z9
    refine x_iconst (v := (1 : Int32)) C dL_law_2372 (by decide) ?_
    refine x_goto (tgt := 2377) C dL_law_2373 (by decide) ?_
    refine x_keep (L' := [(0, xm_w0 b), (1, xm_r x1), (2, xm_r x2), (3, xm_r x3), (4, xm_i x4), (5, xm_i r932)]) C [1, 2, 3, 4, 5, 0] rfl ?_
    exact kp_L_law_2377 b len xs x1 x2 x3 x4 r932 (1 : Int32) (xs ((x4 + (nI 4))).toNatClampNeg) (xs ((x4 + (nI 3))).toNatClampNeg) (xs ((x4 + (nI 2))).toNatClampNeg) (xs ((x4 + (1 : Int32))).toNatClampNeg) x2 S931 (kc + 5) (ks + 30) C N hSc hg hZ23 h1
def wp_L_law_2293 (b len : Nat) (xs : Nat → Int32) (x1 : Option Nat) (x2 : Option Nat) (x3 : Option Nat) (x4 : Int32) (S : xm_S) (kc ks : Nat) (g : Int32 → xm_S → Prop) (Z23 : Option Nat → Option Nat → Option Nat → Int32 → xm_S → Nat → Nat → Prop) : Prop :=
  vp_in (x4 + (1 : Int32)) len ∧ vp_in (x4 + (nI 2)) len ∧ vp_in (x4 + (nI 3)) len ∧ vp_in (x4 + (nI 4)) len ∧ vp_in (x4 + (nI 5)) len ∧ ((xs ((x4 + (nI 5))).toNatClampNeg) = 0 → wp_L_law_2332 b len xs x1 x2 x3 x4 (0 : Int32) (xs ((x4 + (nI 4))).toNatClampNeg) (xs ((x4 + (nI 3))).toNatClampNeg) (xs ((x4 + (nI 2))).toNatClampNeg) (xs ((x4 + (1 : Int32))).toNatClampNeg) x1 S kc ks g Z23) ∧ (¬ (xs ((x4 + (nI 5))).toNatClampNeg) = 0 → wp_L_law_2332 b len xs x1 x2 x3 x4 (1 : Int32) (xs ((x4 + (nI 4))).toNatClampNeg) (xs ((x4 + (nI 3))).toNatClampNeg) (xs ((x4 + (nI 2))).toNatClampNeg) (xs ((x4 + (1 : Int32))).toNatClampNeg) x1 S kc ks g Z23)
set_option maxRecDepth 100000 in
set_option maxHeartbeats 4000000 in
theorem kp_L_law_2293 {K : xm_K} (b len : Nat) (xs : Nat → Int32) (x1 : Option Nat) (x2 : Option Nat) (x3 : Option Nat) (x4 : Int32) (S : xm_S) (kc ks : Nat) {g : Int32 → xm_S → Prop} {Z23 : Option Nat → Option Nat → Option Nat → Int32 → xm_S → Nat → Nat → Prop} (C : xm_Cx K cL_law RL 7 (some .boolean) rm_L_law) (N : xm_Nx K) (hSc : xm_Sc K b len xs) (hg : ∀ v S, g v S → xm_q K (some (xm_i v)) S) (hZ23 : ∀ x1 x2 x3 x4 S kc ks, Z23 x1 x2 x3 x4 S kc ks → xm_W K kc ks 23 [(0, xm_w0 b), (1, xm_r x1), (2, xm_r x2), (3, xm_r x3), (4, xm_i x4)] [] S) (h1 : wp_L_law_2293 b len xs x1 x2 x3 x4 S kc ks g Z23) : xm_W K kc ks 2293 [(0, xm_w0 b), (1, xm_r x1), (2, xm_r x2), (3, xm_r x3), (4, xm_i x4)] [] S := by
  unfold wp_L_law_2293 at h1
  refine x_aload_n C 1 dL_law_2293 rfl rfl ?_
  refine x_aload_n_w C 0 dL_law_2294 rfl rfl ?_
  refine x_iload C 4 dL_law_2295 rfl ?_
  refine x_iconst (v := (1 : Int32)) C dL_law_2297 (by decide) ?_
  refine x_iadd C dL_law_2298 ?_
  obtain ⟨hi938, h1⟩ := h1
  refine x_sald C hSc hi938 dL_law_2299 ?_
  refine x_aload_n_w C 0 dL_law_2300 rfl rfl ?_
  refine x_iload C 4 dL_law_2301 rfl ?_
  refine x_iconst (v := (nI 2)) C dL_law_2303 (by decide) ?_
  refine x_iadd C dL_law_2304 ?_
  obtain ⟨hi939, h1⟩ := h1
  refine x_sald C hSc hi939 dL_law_2305 ?_
  refine x_aload_n_w C 0 dL_law_2306 rfl rfl ?_
  refine x_iload C 4 dL_law_2307 rfl ?_
  refine x_iconst (v := (nI 3)) C dL_law_2309 (by decide) ?_
  refine x_iadd C dL_law_2310 ?_
  obtain ⟨hi940, h1⟩ := h1
  refine x_sald C hSc hi940 dL_law_2311 ?_
  refine x_aload_n_w C 0 dL_law_2312 rfl rfl ?_
  refine x_iload C 4 dL_law_2313 rfl ?_
  refine x_iconst (v := (nI 4)) C dL_law_2315 (by decide) ?_
  refine x_iadd C dL_law_2316 ?_
  obtain ⟨hi941, h1⟩ := h1
  refine x_sald C hSc hi941 dL_law_2317 ?_
  refine x_aload_n_w C 0 dL_law_2318 rfl rfl ?_
  refine x_iload C 4 dL_law_2319 rfl ?_
  refine x_iconst (v := (nI 5)) C dL_law_2321 (by decide) ?_
  refine x_iadd C dL_law_2322 ?_
  obtain ⟨hi942, h1⟩ := h1
  refine x_sald C hSc hi942 dL_law_2323 ?_
  refine x_if_eq (tgt := 2331) C dL_law_2324 (by decide) (fun z9 => ?_) (fun z9 => ?_)
  · have h1 := h1.1 z9
    refine x_iconst (v := (0 : Int32)) C dL_law_2331 (by decide) ?_
    exact kp_L_law_2332 b len xs x1 x2 x3 x4 (0 : Int32) (xs ((x4 + (nI 4))).toNatClampNeg) (xs ((x4 + (nI 3))).toNatClampNeg) (xs ((x4 + (nI 2))).toNatClampNeg) (xs ((x4 + (1 : Int32))).toNatClampNeg) x1 S kc ks C N hSc hg hZ23 h1
  · have h1 := h1.2 z9
    refine x_iconst (v := (1 : Int32)) C dL_law_2327 (by decide) ?_
    refine x_goto (tgt := 2332) C dL_law_2328 (by decide) ?_
    exact kp_L_law_2332 b len xs x1 x2 x3 x4 (1 : Int32) (xs ((x4 + (nI 4))).toNatClampNeg) (xs ((x4 + (nI 3))).toNatClampNeg) (xs ((x4 + (nI 2))).toNatClampNeg) (xs ((x4 + (1 : Int32))).toNatClampNeg) x1 S kc ks C N hSc hg hZ23 h1
def wp_L_law_2490 (b len : Nat) (xs : Nat → Int32) (x1 : Option Nat) (x2 : Option Nat) (x3 : Option Nat) (x4 : Int32) (S : xm_S) (kc ks : Nat) (g : Int32 → xm_S → Prop) (Z23 : Option Nat → Option Nat → Option Nat → Int32 → xm_S → Nat → Nat → Prop) : Prop :=
  wp_L_law_2965 b len xs x1 x2 x3 x4 S kc ks g Z23
set_option maxRecDepth 100000 in
set_option maxHeartbeats 4000000 in
theorem kp_L_law_2490 {K : xm_K} (b len : Nat) (xs : Nat → Int32) (x1 : Option Nat) (x2 : Option Nat) (x3 : Option Nat) (x4 : Int32) (S : xm_S) (kc ks : Nat) {g : Int32 → xm_S → Prop} {Z23 : Option Nat → Option Nat → Option Nat → Int32 → xm_S → Nat → Nat → Prop} (C : xm_Cx K cL_law RL 7 (some .boolean) rm_L_law) (N : xm_Nx K) (hSc : xm_Sc K b len xs) (hg : ∀ v S, g v S → xm_q K (some (xm_i v)) S) (hZ23 : ∀ x1 x2 x3 x4 S kc ks, Z23 x1 x2 x3 x4 S kc ks → xm_W K kc ks 23 [(0, xm_w0 b), (1, xm_r x1), (2, xm_r x2), (3, xm_r x3), (4, xm_i x4)] [] S) (h1 : wp_L_law_2490 b len xs x1 x2 x3 x4 S kc ks g Z23) : xm_W K kc ks 2490 [(0, xm_w0 b), (1, xm_r x1), (2, xm_r x2), (3, xm_r x3), (4, xm_i x4)] [] S := by
  unfold wp_L_law_2490 at h1
  refine x_goto (tgt := 2965) C dL_law_2490 (by decide) ?_
  exact kp_L_law_2965 b len xs x1 x2 x3 x4 S kc ks C N hSc hg hZ23 h1
def wp_L_law_2413 (b len : Nat) (xs : Nat → Int32) (x1 : Option Nat) (x2 : Option Nat) (x3 : Option Nat) (x4 : Int32) (S : xm_S) (kc ks : Nat) (g : Int32 → xm_S → Prop) (Z23 : Option Nat → Option Nat → Option Nat → Int32 → xm_S → Nat → Nat → Prop) : Prop :=
  vp_in (x4 + (1 : Int32)) len ∧ vp_in (x4 + (nI 2)) len ∧ vp_in (x4 + (nI 3)) len ∧ kc + 4 ≤ 601024 ∧ ks + 24 ≤ 7293034 ∧ wp_L_divert x1 (xs ((x4 + (1 : Int32))).toNatClampNeg) (xs ((x4 + (nI 2))).toNatClampNeg) (xs ((x4 + (nI 3))).toNatClampNeg) x3 S (fun r949 S948 => vp_in (x4 + (1 : Int32)) len ∧ vp_in (x4 + (nI 2)) len ∧ vp_in (x4 + (nI 3)) len ∧ ∃ n953, x2 = some n953 ∧ st_t S948 n953 = some (12, 0) ∧ (kc + 4) ≤ 601024 ∧ (ks + 24) ≤ 7293034 ∧ wp_X12_divert n953 (xs ((x4 + (1 : Int32))).toNatClampNeg) (xs ((x4 + (nI 2))).toNatClampNeg) (xs ((x4 + (nI 3))).toNatClampNeg) S948 (fun r959 S958 => ∃ n960, x2 = some n960 ∧ st_t S958 n960 = some (12, 0) ∧ (kc + 4) ≤ 601024 ∧ (ks + 24) ≤ 7293034 ∧ wp_X12_thrown n960 S958 (fun r966 S965 => (r966 = r949 → (¬ r949 = 0 → wp_L_law_2490 b len xs x1 x2 x3 x4 S965 (kc + 4) (ks + 24) g Z23) ∧ (r949 = 0 → ∃ n967, x3 = some n967 ∧ ∃ z970, st_t S965 n967 = some (103, z970) ∧ vp_in (0 : Int32) z970 ∧ ((lg_cmp (st_l S965 n967 ((0 : Int32)).toNatClampNeg) ((r959).toInt64)) = 0 → wp_L_law_2490 b len xs x1 x2 x3 x4 S965 (kc + 4) (ks + 24) g Z23) ∧ (¬ (lg_cmp (st_l S965 n967 ((0 : Int32)).toNatClampNeg) ((r959).toInt64)) = 0 → (kc + 4) ≤ 601024 ∧ (ks + 24) ≤ 7293034 ∧ g (0 : Int32) S965))) ∧ (¬ r966 = r949 → (kc + 4) ≤ 601024 ∧ (ks + 24) ≤ 7293034 ∧ g (0 : Int32) S965))))
set_option maxRecDepth 100000 in
set_option maxHeartbeats 4000000 in
theorem kp_L_law_2413 {K : xm_K} (b len : Nat) (xs : Nat → Int32) (x1 : Option Nat) (x2 : Option Nat) (x3 : Option Nat) (x4 : Int32) (S : xm_S) (kc ks : Nat) {g : Int32 → xm_S → Prop} {Z23 : Option Nat → Option Nat → Option Nat → Int32 → xm_S → Nat → Nat → Prop} (C : xm_Cx K cL_law RL 7 (some .boolean) rm_L_law) (N : xm_Nx K) (hSc : xm_Sc K b len xs) (hg : ∀ v S, g v S → xm_q K (some (xm_i v)) S) (hZ23 : ∀ x1 x2 x3 x4 S kc ks, Z23 x1 x2 x3 x4 S kc ks → xm_W K kc ks 23 [(0, xm_w0 b), (1, xm_r x1), (2, xm_r x2), (3, xm_r x3), (4, xm_i x4)] [] S) (h1 : wp_L_law_2413 b len xs x1 x2 x3 x4 S kc ks g Z23) : xm_W K kc ks 2413 [(0, xm_w0 b), (1, xm_r x1), (2, xm_r x2), (3, xm_r x3), (4, xm_i x4)] [] S := by
  unfold wp_L_law_2413 at h1
  refine x_aload_n C 1 dL_law_2413 rfl rfl ?_
  refine x_aload_n_w C 0 dL_law_2414 rfl rfl ?_
  refine x_iload C 4 dL_law_2415 rfl ?_
  refine x_iconst (v := (1 : Int32)) C dL_law_2417 (by decide) ?_
  refine x_iadd C dL_law_2418 ?_
  obtain ⟨hi943, h1⟩ := h1
  refine x_sald C hSc hi943 dL_law_2419 ?_
  refine x_aload_n_w C 0 dL_law_2420 rfl rfl ?_
  refine x_iload C 4 dL_law_2421 rfl ?_
  refine x_iconst (v := (nI 2)) C dL_law_2423 (by decide) ?_
  refine x_iadd C dL_law_2424 ?_
  obtain ⟨hi944, h1⟩ := h1
  refine x_sald C hSc hi944 dL_law_2425 ?_
  refine x_aload_n_w C 0 dL_law_2426 rfl rfl ?_
  refine x_iload C 4 dL_law_2427 rfl ?_
  refine x_iconst (v := (nI 3)) C dL_law_2429 (by decide) ?_
  refine x_iadd C dL_law_2430 ?_
  obtain ⟨hi945, h1⟩ := h1
  refine x_sald C hSc hi945 dL_law_2431 ?_
  refine x_aload_n C 3 dL_law_2432 rfl rfl ?_
  obtain ⟨hc946, hc947, h1⟩ := h1
  refine x_callSH (rm' := rm_L_divert) (hh := [(0, 12, 15, 21), (0, 12, 19, 13)]) C (kp_L_divert_met h1) gw_1156 gw_932 gw_1157 ⟨by decide, by decide, show Option.map _ (parseMethodDescriptor yL_divert.desc) = some 5 from by decide +kernel⟩ gw_1158 rfl (Nat.le_of_ble_eq_true rfl) ⟨Nat.le_of_ble_eq_true rfl, Nat.le_of_ble_eq_true rfl, hc946, hc947⟩ dL_law_2433 xm_kx (xm_ki (fun r949 S948 h1 => ?_))
  refine x_istore (L' := [(5, xm_i r949), (0, xm_w0 b), (1, xm_r x1), (2, xm_r x2), (3, xm_r x3), (4, xm_i x4)]) C dL_law_2436 (by decide) rfl ?_
  refine x_aload_n C 3 dL_law_2438 rfl rfl ?_
  refine x_aload_n_w C 1 dL_law_2439 rfl rfl ?_
  refine x_iload C 5 dL_law_2440 rfl ?_
  refine x_iconst (v := (1 : Int32)) C dL_law_2442 (by decide) ?_
  refine x_iadd C dL_law_2443 ?_
  obtain ⟨hi950, h1⟩ := h1
  refine x_sald C hSc hi950 dL_law_2444 ?_
  refine x_aload_n_w C 1 dL_law_2445 rfl rfl ?_
  refine x_iload C 5 dL_law_2446 rfl ?_
  refine x_iconst (v := (nI 2)) C dL_law_2448 (by decide) ?_
  refine x_iadd C dL_law_2449 ?_
  obtain ⟨hi951, h1⟩ := h1
  refine x_sald C hSc hi951 dL_law_2450 ?_
  refine x_aload_n_w C 1 dL_law_2451 rfl rfl ?_
  refine x_iload C 5 dL_law_2452 rfl ?_
  refine x_iconst (v := (nI 3)) C dL_law_2454 (by decide) ?_
  refine x_iadd C dL_law_2455 ?_
  obtain ⟨hi952, h1⟩ := h1
  refine x_sald C hSc hi952 dL_law_2456 ?_
  obtain ⟨n953, hr954, h1⟩ := h1
  obtain ⟨ht955, h1⟩ := h1
  obtain ⟨hc956, hc957, h1⟩ := h1
  refine x_callV (rm' := rm_X12_divert) (n := n953) C (kp_X12_divert_met h1) lk_205 gw_1161 gw_1162 xv_12 rfl hr954 ht955 rfl (Nat.le_of_ble_eq_true rfl) ⟨Nat.le_of_ble_eq_true rfl, Nat.le_of_ble_eq_true rfl, hc956, hc957⟩ dL_law_2457 xm_kx (xm_ki (fun r959 S958 h1 => ?_))
  refine x_istore (L' := [(6, xm_i r959), (5, xm_i r949), (0, xm_w0 b), (1, xm_r x1), (2, xm_r x2), (3, xm_r x3), (4, xm_i x4)]) C dL_law_2460 (by decide) rfl ?_
  refine x_aload_n C 4 dL_law_2462 rfl rfl ?_
  obtain ⟨n960, hr961, h1⟩ := h1
  obtain ⟨ht962, h1⟩ := h1
  obtain ⟨hc963, hc964, h1⟩ := h1
  refine x_callV (rm' := rm_X12_thrown) (n := n960) C (kp_X12_thrown_met h1) lk_171 gw_941 gw_942 xv_12 rfl hr961 ht962 rfl (Nat.le_of_ble_eq_true rfl) ⟨Nat.le_of_ble_eq_true rfl, Nat.le_of_ble_eq_true rfl, hc963, hc964⟩ dL_law_2463 xm_kx (xm_ki (fun r966 S965 h1 => ?_))
  refine x_iload C 1 dL_law_2466 rfl ?_
  refine x_icmp_eq (tgt := 2473) C dL_law_2468 (by decide) (fun z9 => ?_) (fun z9 => ?_)
  · have h1 := h1.1 z9
    refine x_iload C 1 dL_law_2473 rfl ?_
    refine x_if_ne (tgt := 2490) C dL_law_2475 (by decide) (fun z9 => ?_) (fun z9 => ?_)
    · have h1 := h1.1 z9
      refine x_keep (L' := [(0, xm_w0 b), (1, xm_r x1), (2, xm_r x2), (3, xm_r x3), (4, xm_i x4)]) C [2, 3, 4, 5, 6] rfl ?_
      exact kp_L_law_2490 b len xs x1 x2 x3 x4 S965 (kc + 4) (ks + 24) C N hSc hg hZ23 h1
    · have h1 := h1.2 z9
      refine x_aload_n C 5 dL_law_2478 rfl rfl ?_
      refine x_iconst (v := (0 : Int32)) C dL_law_2479 (by decide) ?_
      obtain ⟨n967, hr968, h1⟩ := h1
      obtain ⟨z970, ht969, h1⟩ := h1
      obtain ⟨hi971, h1⟩ := h1
      refine x_lald (n := n967) C hr968 ht969 hi971 dL_law_2480 ?_
      refine x_iload C 0 dL_law_2481 rfl ?_
      refine x_i2l C dL_law_2483 ?_
      refine x_lcmp C dL_law_2484 ?_
      refine x_if_eq (tgt := 2490) C dL_law_2485 (by decide) (fun z9 => ?_) (fun z9 => ?_)
      · have h1 := h1.1 z9
        refine x_keep (L' := [(0, xm_w0 b), (1, xm_r x1), (2, xm_r x2), (3, xm_r x3), (4, xm_i x4)]) C [2, 3, 4, 5, 6] rfl ?_
        exact kp_L_law_2490 b len xs x1 x2 x3 x4 S965 (kc + 4) (ks + 24) C N hSc hg hZ23 h1
      · have h1 := h1.2 z9
        refine x_iconst (v := (0 : Int32)) C dL_law_2488 (by decide) ?_
        obtain ⟨hc972, hc973, h1⟩ := h1
        exact x_zret C hc972 hc973 rfl (by decide) dL_law_2489 (hg _ _ h1)
  · have h1 := h1.2 z9
    refine x_iconst (v := (0 : Int32)) C dL_law_2471 (by decide) ?_
    obtain ⟨hc974, hc975, h1⟩ := h1
    exact x_zret C hc974 hc975 rfl (by decide) dL_law_2472 (hg _ _ h1)
def wp_L_law_2558 (b len : Nat) (xs : Nat → Int32) (x1 : Option Nat) (x2 : Option Nat) (x3 : Option Nat) (x4 : Int32) (S : xm_S) (kc ks : Nat) (g : Int32 → xm_S → Prop) (Z23 : Option Nat → Option Nat → Option Nat → Int32 → xm_S → Nat → Nat → Prop) : Prop :=
  wp_L_law_2965 b len xs x1 x2 x3 x4 S kc ks g Z23
set_option maxRecDepth 100000 in
set_option maxHeartbeats 4000000 in
theorem kp_L_law_2558 {K : xm_K} (b len : Nat) (xs : Nat → Int32) (x1 : Option Nat) (x2 : Option Nat) (x3 : Option Nat) (x4 : Int32) (S : xm_S) (kc ks : Nat) {g : Int32 → xm_S → Prop} {Z23 : Option Nat → Option Nat → Option Nat → Int32 → xm_S → Nat → Nat → Prop} (C : xm_Cx K cL_law RL 7 (some .boolean) rm_L_law) (N : xm_Nx K) (hSc : xm_Sc K b len xs) (hg : ∀ v S, g v S → xm_q K (some (xm_i v)) S) (hZ23 : ∀ x1 x2 x3 x4 S kc ks, Z23 x1 x2 x3 x4 S kc ks → xm_W K kc ks 23 [(0, xm_w0 b), (1, xm_r x1), (2, xm_r x2), (3, xm_r x3), (4, xm_i x4)] [] S) (h1 : wp_L_law_2558 b len xs x1 x2 x3 x4 S kc ks g Z23) : xm_W K kc ks 2558 [(0, xm_w0 b), (1, xm_r x1), (2, xm_r x2), (3, xm_r x3), (4, xm_i x4)] [] S := by
  unfold wp_L_law_2558 at h1
  refine x_goto (tgt := 2965) C dL_law_2558 (by decide) ?_
  exact kp_L_law_2965 b len xs x1 x2 x3 x4 S kc ks C N hSc hg hZ23 h1
def wp_L_law_2493 (b len : Nat) (xs : Nat → Int32) (x1 : Option Nat) (x2 : Option Nat) (x3 : Option Nat) (x4 : Int32) (S : xm_S) (kc ks : Nat) (g : Int32 → xm_S → Prop) (Z23 : Option Nat → Option Nat → Option Nat → Int32 → xm_S → Nat → Nat → Prop) : Prop :=
  vp_in (x4 + (1 : Int32)) len ∧ vp_in (x4 + (nI 2)) len ∧ kc + 2 ≤ 601024 ∧ ks + 12 ≤ 7293034 ∧ wp_L_install x1 (xs ((x4 + (1 : Int32))).toNatClampNeg) (xs ((x4 + (nI 2))).toNatClampNeg) x3 S (fun r981 S980 => vp_in (x4 + (1 : Int32)) len ∧ vp_in (x4 + (nI 2)) len ∧ ∃ n984, x2 = some n984 ∧ st_t S980 n984 = some (12, 0) ∧ (kc + 2) ≤ 601024 ∧ (ks + 12) ≤ 7293034 ∧ wp_X12_install n984 (xs ((x4 + (1 : Int32))).toNatClampNeg) (xs ((x4 + (nI 2))).toNatClampNeg) S980 (fun r990 S989 => ∃ n991, x2 = some n991 ∧ st_t S989 n991 = some (12, 0) ∧ (kc + 2) ≤ 601024 ∧ (ks + 12) ≤ 7293034 ∧ wp_X12_thrown n991 S989 (fun r997 S996 => (r997 = r981 → (¬ r981 = 0 → wp_L_law_2558 b len xs x1 x2 x3 x4 S996 (kc + 2) (ks + 12) g Z23) ∧ (r981 = 0 → ∃ n998, x3 = some n998 ∧ ∃ z1001, st_t S996 n998 = some (103, z1001) ∧ vp_in (0 : Int32) z1001 ∧ ((lg_cmp (st_l S996 n998 ((0 : Int32)).toNatClampNeg) ((r990).toInt64)) = 0 → wp_L_law_2558 b len xs x1 x2 x3 x4 S996 (kc + 2) (ks + 12) g Z23) ∧ (¬ (lg_cmp (st_l S996 n998 ((0 : Int32)).toNatClampNeg) ((r990).toInt64)) = 0 → (kc + 2) ≤ 601024 ∧ (ks + 12) ≤ 7293034 ∧ g (0 : Int32) S996))) ∧ (¬ r997 = r981 → (kc + 2) ≤ 601024 ∧ (ks + 12) ≤ 7293034 ∧ g (0 : Int32) S996))))
set_option maxRecDepth 100000 in
set_option maxHeartbeats 4000000 in
theorem kp_L_law_2493 {K : xm_K} (b len : Nat) (xs : Nat → Int32) (x1 : Option Nat) (x2 : Option Nat) (x3 : Option Nat) (x4 : Int32) (S : xm_S) (kc ks : Nat) {g : Int32 → xm_S → Prop} {Z23 : Option Nat → Option Nat → Option Nat → Int32 → xm_S → Nat → Nat → Prop} (C : xm_Cx K cL_law RL 7 (some .boolean) rm_L_law) (N : xm_Nx K) (hSc : xm_Sc K b len xs) (hg : ∀ v S, g v S → xm_q K (some (xm_i v)) S) (hZ23 : ∀ x1 x2 x3 x4 S kc ks, Z23 x1 x2 x3 x4 S kc ks → xm_W K kc ks 23 [(0, xm_w0 b), (1, xm_r x1), (2, xm_r x2), (3, xm_r x3), (4, xm_i x4)] [] S) (h1 : wp_L_law_2493 b len xs x1 x2 x3 x4 S kc ks g Z23) : xm_W K kc ks 2493 [(0, xm_w0 b), (1, xm_r x1), (2, xm_r x2), (3, xm_r x3), (4, xm_i x4)] [] S := by
  unfold wp_L_law_2493 at h1
  refine x_aload_n C 1 dL_law_2493 rfl rfl ?_
  refine x_aload_n_w C 0 dL_law_2494 rfl rfl ?_
  refine x_iload C 4 dL_law_2495 rfl ?_
  refine x_iconst (v := (1 : Int32)) C dL_law_2497 (by decide) ?_
  refine x_iadd C dL_law_2498 ?_
  obtain ⟨hi976, h1⟩ := h1
  refine x_sald C hSc hi976 dL_law_2499 ?_
  refine x_aload_n_w C 0 dL_law_2500 rfl rfl ?_
  refine x_iload C 4 dL_law_2501 rfl ?_
  refine x_iconst (v := (nI 2)) C dL_law_2503 (by decide) ?_
  refine x_iadd C dL_law_2504 ?_
  obtain ⟨hi977, h1⟩ := h1
  refine x_sald C hSc hi977 dL_law_2505 ?_
  refine x_aload_n C 3 dL_law_2506 rfl rfl ?_
  obtain ⟨hc978, hc979, h1⟩ := h1
  refine x_callSH (rm' := rm_L_install) (hh := [(0, 10, 13, 21), (0, 10, 17, 13)]) C (kp_L_install_met h1) gw_1163 gw_932 gw_1164 ⟨by decide, by decide, show Option.map _ (parseMethodDescriptor yL_install.desc) = some 4 from by decide +kernel⟩ gw_1165 rfl (Nat.le_of_ble_eq_true rfl) ⟨Nat.le_of_ble_eq_true rfl, Nat.le_of_ble_eq_true rfl, hc978, hc979⟩ dL_law_2507 xm_kx (xm_ki (fun r981 S980 h1 => ?_))
  refine x_istore (L' := [(5, xm_i r981), (0, xm_w0 b), (1, xm_r x1), (2, xm_r x2), (3, xm_r x3), (4, xm_i x4)]) C dL_law_2510 (by decide) rfl ?_
  refine x_aload_n C 3 dL_law_2512 rfl rfl ?_
  refine x_aload_n_w C 1 dL_law_2513 rfl rfl ?_
  refine x_iload C 5 dL_law_2514 rfl ?_
  refine x_iconst (v := (1 : Int32)) C dL_law_2516 (by decide) ?_
  refine x_iadd C dL_law_2517 ?_
  obtain ⟨hi982, h1⟩ := h1
  refine x_sald C hSc hi982 dL_law_2518 ?_
  refine x_aload_n_w C 1 dL_law_2519 rfl rfl ?_
  refine x_iload C 5 dL_law_2520 rfl ?_
  refine x_iconst (v := (nI 2)) C dL_law_2522 (by decide) ?_
  refine x_iadd C dL_law_2523 ?_
  obtain ⟨hi983, h1⟩ := h1
  refine x_sald C hSc hi983 dL_law_2524 ?_
  obtain ⟨n984, hr985, h1⟩ := h1
  obtain ⟨ht986, h1⟩ := h1
  obtain ⟨hc987, hc988, h1⟩ := h1
  refine x_callV (rm' := rm_X12_install) (n := n984) C (kp_X12_install_met h1) lk_206 gw_1168 gw_1169 xv_12 rfl hr985 ht986 rfl (Nat.le_of_ble_eq_true rfl) ⟨Nat.le_of_ble_eq_true rfl, Nat.le_of_ble_eq_true rfl, hc987, hc988⟩ dL_law_2525 xm_kx (xm_ki (fun r990 S989 h1 => ?_))
  refine x_istore (L' := [(6, xm_i r990), (5, xm_i r981), (0, xm_w0 b), (1, xm_r x1), (2, xm_r x2), (3, xm_r x3), (4, xm_i x4)]) C dL_law_2528 (by decide) rfl ?_
  refine x_aload_n C 4 dL_law_2530 rfl rfl ?_
  obtain ⟨n991, hr992, h1⟩ := h1
  obtain ⟨ht993, h1⟩ := h1
  obtain ⟨hc994, hc995, h1⟩ := h1
  refine x_callV (rm' := rm_X12_thrown) (n := n991) C (kp_X12_thrown_met h1) lk_171 gw_941 gw_942 xv_12 rfl hr992 ht993 rfl (Nat.le_of_ble_eq_true rfl) ⟨Nat.le_of_ble_eq_true rfl, Nat.le_of_ble_eq_true rfl, hc994, hc995⟩ dL_law_2531 xm_kx (xm_ki (fun r997 S996 h1 => ?_))
  refine x_iload C 1 dL_law_2534 rfl ?_
  refine x_icmp_eq (tgt := 2541) C dL_law_2536 (by decide) (fun z9 => ?_) (fun z9 => ?_)
  · have h1 := h1.1 z9
    refine x_iload C 1 dL_law_2541 rfl ?_
    refine x_if_ne (tgt := 2558) C dL_law_2543 (by decide) (fun z9 => ?_) (fun z9 => ?_)
    · have h1 := h1.1 z9
      refine x_keep (L' := [(0, xm_w0 b), (1, xm_r x1), (2, xm_r x2), (3, xm_r x3), (4, xm_i x4)]) C [2, 3, 4, 5, 6] rfl ?_
      exact kp_L_law_2558 b len xs x1 x2 x3 x4 S996 (kc + 2) (ks + 12) C N hSc hg hZ23 h1
    · have h1 := h1.2 z9
      refine x_aload_n C 5 dL_law_2546 rfl rfl ?_
      refine x_iconst (v := (0 : Int32)) C dL_law_2547 (by decide) ?_
      obtain ⟨n998, hr999, h1⟩ := h1
      obtain ⟨z1001, ht1000, h1⟩ := h1
      obtain ⟨hi1002, h1⟩ := h1
      refine x_lald (n := n998) C hr999 ht1000 hi1002 dL_law_2548 ?_
      refine x_iload C 0 dL_law_2549 rfl ?_
      refine x_i2l C dL_law_2551 ?_
      refine x_lcmp C dL_law_2552 ?_
      refine x_if_eq (tgt := 2558) C dL_law_2553 (by decide) (fun z9 => ?_) (fun z9 => ?_)
      · have h1 := h1.1 z9
        refine x_keep (L' := [(0, xm_w0 b), (1, xm_r x1), (2, xm_r x2), (3, xm_r x3), (4, xm_i x4)]) C [2, 3, 4, 5, 6] rfl ?_
        exact kp_L_law_2558 b len xs x1 x2 x3 x4 S996 (kc + 2) (ks + 12) C N hSc hg hZ23 h1
      · have h1 := h1.2 z9
        refine x_iconst (v := (0 : Int32)) C dL_law_2556 (by decide) ?_
        obtain ⟨hc1003, hc1004, h1⟩ := h1
        exact x_zret C hc1003 hc1004 rfl (by decide) dL_law_2557 (hg _ _ h1)
  · have h1 := h1.2 z9
    refine x_iconst (v := (0 : Int32)) C dL_law_2539 (by decide) ?_
    obtain ⟨hc1005, hc1006, h1⟩ := h1
    exact x_zret C hc1005 hc1006 rfl (by decide) dL_law_2540 (hg _ _ h1)
def wp_L_law_2561 (b len : Nat) (xs : Nat → Int32) (x1 : Option Nat) (x2 : Option Nat) (x3 : Option Nat) (x4 : Int32) (S : xm_S) (kc ks : Nat) (g : Int32 → xm_S → Prop) (Z23 : Option Nat → Option Nat → Option Nat → Int32 → xm_S → Nat → Nat → Prop) : Prop :=
  ∃ n1007, x1 = some n1007 ∧ st_t S n1007 = some (11, 0) ∧ kc ≤ 601024 ∧ ks ≤ 7293034 ∧ wp_X11_steps n1007 S (fun r1013 S1012 => ∃ n1014, x2 = some n1014 ∧ st_t S1012 n1014 = some (12, 0) ∧ kc ≤ 601024 ∧ ks ≤ 7293034 ∧ wp_X12_steps n1014 S1012 (fun r1020 S1019 => (r1013 = r1020 → wp_L_law_2965 b len xs x1 x2 x3 x4 S1019 kc ks g Z23) ∧ (¬ r1013 = r1020 → kc ≤ 601024 ∧ ks ≤ 7293034 ∧ g (0 : Int32) S1019)))
set_option maxRecDepth 100000 in
set_option maxHeartbeats 4000000 in
theorem kp_L_law_2561 {K : xm_K} (b len : Nat) (xs : Nat → Int32) (x1 : Option Nat) (x2 : Option Nat) (x3 : Option Nat) (x4 : Int32) (S : xm_S) (kc ks : Nat) {g : Int32 → xm_S → Prop} {Z23 : Option Nat → Option Nat → Option Nat → Int32 → xm_S → Nat → Nat → Prop} (C : xm_Cx K cL_law RL 7 (some .boolean) rm_L_law) (N : xm_Nx K) (hSc : xm_Sc K b len xs) (hg : ∀ v S, g v S → xm_q K (some (xm_i v)) S) (hZ23 : ∀ x1 x2 x3 x4 S kc ks, Z23 x1 x2 x3 x4 S kc ks → xm_W K kc ks 23 [(0, xm_w0 b), (1, xm_r x1), (2, xm_r x2), (3, xm_r x3), (4, xm_i x4)] [] S) (h1 : wp_L_law_2561 b len xs x1 x2 x3 x4 S kc ks g Z23) : xm_W K kc ks 2561 [(0, xm_w0 b), (1, xm_r x1), (2, xm_r x2), (3, xm_r x3), (4, xm_i x4)] [] S := by
  unfold wp_L_law_2561 at h1
  refine x_aload_n C 1 dL_law_2561 rfl rfl ?_
  obtain ⟨n1007, hr1008, h1⟩ := h1
  obtain ⟨ht1009, h1⟩ := h1
  obtain ⟨hc1010, hc1011, h1⟩ := h1
  refine x_callV (rm' := rm_X11_steps) (n := n1007) C (kp_X11_steps_met h1) lk_207 gw_1172 gw_1173 xv_11 rfl hr1008 ht1009 rfl (Nat.le_of_ble_eq_true rfl) ⟨Nat.le_of_ble_eq_true rfl, Nat.le_of_ble_eq_true rfl, hc1010, hc1011⟩ dL_law_2562 xm_kx (xm_ki (fun r1013 S1012 h1 => ?_))
  refine x_aload_n C 2 dL_law_2565 rfl rfl ?_
  obtain ⟨n1014, hr1015, h1⟩ := h1
  obtain ⟨ht1016, h1⟩ := h1
  obtain ⟨hc1017, hc1018, h1⟩ := h1
  refine x_callV (rm' := rm_X12_steps) (n := n1014) C (kp_X12_steps_met h1) lk_208 gw_1176 gw_1177 xv_12 rfl hr1015 ht1016 rfl (Nat.le_of_ble_eq_true rfl) ⟨Nat.le_of_ble_eq_true rfl, Nat.le_of_ble_eq_true rfl, hc1017, hc1018⟩ dL_law_2566 xm_kx (xm_ki (fun r1020 S1019 h1 => ?_))
  refine x_icmp_eq (tgt := 2965) C dL_law_2569 (by decide) (fun z9 => ?_) (fun z9 => ?_)
  · have h1 := h1.1 z9
    exact kp_L_law_2965 b len xs x1 x2 x3 x4 S1019 kc ks C N hSc hg hZ23 h1
  · have h1 := h1.2 z9
    refine x_iconst (v := (0 : Int32)) C dL_law_2572 (by decide) ?_
    obtain ⟨hc1021, hc1022, h1⟩ := h1
    exact x_zret C hc1021 hc1022 rfl (by decide) dL_law_2573 (hg _ _ h1)
def wp_L_law_2639 (b len : Nat) (xs : Nat → Int32) (x1 : Option Nat) (x2 : Option Nat) (x3 : Option Nat) (x4 : Int32) (S : xm_S) (kc ks : Nat) (g : Int32 → xm_S → Prop) (Z23 : Option Nat → Option Nat → Option Nat → Int32 → xm_S → Nat → Nat → Prop) : Prop :=
  wp_L_law_2965 b len xs x1 x2 x3 x4 S kc ks g Z23
set_option maxRecDepth 100000 in
set_option maxHeartbeats 4000000 in
theorem kp_L_law_2639 {K : xm_K} (b len : Nat) (xs : Nat → Int32) (x1 : Option Nat) (x2 : Option Nat) (x3 : Option Nat) (x4 : Int32) (S : xm_S) (kc ks : Nat) {g : Int32 → xm_S → Prop} {Z23 : Option Nat → Option Nat → Option Nat → Int32 → xm_S → Nat → Nat → Prop} (C : xm_Cx K cL_law RL 7 (some .boolean) rm_L_law) (N : xm_Nx K) (hSc : xm_Sc K b len xs) (hg : ∀ v S, g v S → xm_q K (some (xm_i v)) S) (hZ23 : ∀ x1 x2 x3 x4 S kc ks, Z23 x1 x2 x3 x4 S kc ks → xm_W K kc ks 23 [(0, xm_w0 b), (1, xm_r x1), (2, xm_r x2), (3, xm_r x3), (4, xm_i x4)] [] S) (h1 : wp_L_law_2639 b len xs x1 x2 x3 x4 S kc ks g Z23) : xm_W K kc ks 2639 [(0, xm_w0 b), (1, xm_r x1), (2, xm_r x2), (3, xm_r x3), (4, xm_i x4)] [] S := by
  unfold wp_L_law_2639 at h1
  refine x_goto (tgt := 2965) C dL_law_2639 (by decide) ?_
  exact kp_L_law_2965 b len xs x1 x2 x3 x4 S kc ks C N hSc hg hZ23 h1
def wp_L_law_2574 (b len : Nat) (xs : Nat → Int32) (x1 : Option Nat) (x2 : Option Nat) (x3 : Option Nat) (x4 : Int32) (S : xm_S) (kc ks : Nat) (g : Int32 → xm_S → Prop) (Z23 : Option Nat → Option Nat → Option Nat → Int32 → xm_S → Nat → Nat → Prop) : Prop :=
  vp_in (x4 + (1 : Int32)) len ∧ vp_in (x4 + (nI 2)) len ∧ kc + 3 ≤ 601024 ∧ ks + 18 ≤ 7293034 ∧ wp_L_edit x1 (xs ((x4 + (1 : Int32))).toNatClampNeg) (xs ((x4 + (nI 2))).toNatClampNeg) x3 S (fun r1028 S1027 => vp_in (x4 + (1 : Int32)) len ∧ vp_in (x4 + (nI 2)) len ∧ ∃ n1031, x2 = some n1031 ∧ st_t S1027 n1031 = some (12, 0) ∧ (kc + 3) ≤ 601024 ∧ (ks + 18) ≤ 7293034 ∧ wp_X12_edit n1031 (xs ((x4 + (1 : Int32))).toNatClampNeg) (xs ((x4 + (nI 2))).toNatClampNeg) S1027 (fun r1037 S1036 => ∃ n1038, x2 = some n1038 ∧ st_t S1036 n1038 = some (12, 0) ∧ (kc + 3) ≤ 601024 ∧ (ks + 18) ≤ 7293034 ∧ wp_X12_thrown n1038 S1036 (fun r1044 S1043 => (r1044 = r1028 → (¬ r1028 = 0 → wp_L_law_2639 b len xs x1 x2 x3 x4 S1043 (kc + 3) (ks + 18) g Z23) ∧ (r1028 = 0 → ∃ n1045, x3 = some n1045 ∧ ∃ z1048, st_t S1043 n1045 = some (103, z1048) ∧ vp_in (0 : Int32) z1048 ∧ ((lg_cmp (st_l S1043 n1045 ((0 : Int32)).toNatClampNeg) ((r1037).toInt64)) = 0 → wp_L_law_2639 b len xs x1 x2 x3 x4 S1043 (kc + 3) (ks + 18) g Z23) ∧ (¬ (lg_cmp (st_l S1043 n1045 ((0 : Int32)).toNatClampNeg) ((r1037).toInt64)) = 0 → (kc + 3) ≤ 601024 ∧ (ks + 18) ≤ 7293034 ∧ g (0 : Int32) S1043))) ∧ (¬ r1044 = r1028 → (kc + 3) ≤ 601024 ∧ (ks + 18) ≤ 7293034 ∧ g (0 : Int32) S1043))))
set_option maxRecDepth 100000 in
set_option maxHeartbeats 4000000 in
theorem kp_L_law_2574 {K : xm_K} (b len : Nat) (xs : Nat → Int32) (x1 : Option Nat) (x2 : Option Nat) (x3 : Option Nat) (x4 : Int32) (S : xm_S) (kc ks : Nat) {g : Int32 → xm_S → Prop} {Z23 : Option Nat → Option Nat → Option Nat → Int32 → xm_S → Nat → Nat → Prop} (C : xm_Cx K cL_law RL 7 (some .boolean) rm_L_law) (N : xm_Nx K) (hSc : xm_Sc K b len xs) (hg : ∀ v S, g v S → xm_q K (some (xm_i v)) S) (hZ23 : ∀ x1 x2 x3 x4 S kc ks, Z23 x1 x2 x3 x4 S kc ks → xm_W K kc ks 23 [(0, xm_w0 b), (1, xm_r x1), (2, xm_r x2), (3, xm_r x3), (4, xm_i x4)] [] S) (h1 : wp_L_law_2574 b len xs x1 x2 x3 x4 S kc ks g Z23) : xm_W K kc ks 2574 [(0, xm_w0 b), (1, xm_r x1), (2, xm_r x2), (3, xm_r x3), (4, xm_i x4)] [] S := by
  unfold wp_L_law_2574 at h1
  refine x_aload_n C 1 dL_law_2574 rfl rfl ?_
  refine x_aload_n_w C 0 dL_law_2575 rfl rfl ?_
  refine x_iload C 4 dL_law_2576 rfl ?_
  refine x_iconst (v := (1 : Int32)) C dL_law_2578 (by decide) ?_
  refine x_iadd C dL_law_2579 ?_
  obtain ⟨hi1023, h1⟩ := h1
  refine x_sald C hSc hi1023 dL_law_2580 ?_
  refine x_aload_n_w C 0 dL_law_2581 rfl rfl ?_
  refine x_iload C 4 dL_law_2582 rfl ?_
  refine x_iconst (v := (nI 2)) C dL_law_2584 (by decide) ?_
  refine x_iadd C dL_law_2585 ?_
  obtain ⟨hi1024, h1⟩ := h1
  refine x_sald C hSc hi1024 dL_law_2586 ?_
  refine x_aload_n C 3 dL_law_2587 rfl rfl ?_
  obtain ⟨hc1025, hc1026, h1⟩ := h1
  refine x_callSH (rm' := rm_L_edit) (hh := [(0, 10, 13, 13), (0, 10, 17, 15)]) C (kp_L_edit_met h1) gw_1178 gw_932 gw_1179 ⟨by decide, by decide, show Option.map _ (parseMethodDescriptor yL_edit.desc) = some 4 from by decide +kernel⟩ gw_1180 rfl (Nat.le_of_ble_eq_true rfl) ⟨Nat.le_of_ble_eq_true rfl, Nat.le_of_ble_eq_true rfl, hc1025, hc1026⟩ dL_law_2588 xm_kx (xm_ki (fun r1028 S1027 h1 => ?_))
  refine x_istore (L' := [(5, xm_i r1028), (0, xm_w0 b), (1, xm_r x1), (2, xm_r x2), (3, xm_r x3), (4, xm_i x4)]) C dL_law_2591 (by decide) rfl ?_
  refine x_aload_n C 3 dL_law_2593 rfl rfl ?_
  refine x_aload_n_w C 1 dL_law_2594 rfl rfl ?_
  refine x_iload C 5 dL_law_2595 rfl ?_
  refine x_iconst (v := (1 : Int32)) C dL_law_2597 (by decide) ?_
  refine x_iadd C dL_law_2598 ?_
  obtain ⟨hi1029, h1⟩ := h1
  refine x_sald C hSc hi1029 dL_law_2599 ?_
  refine x_aload_n_w C 1 dL_law_2600 rfl rfl ?_
  refine x_iload C 5 dL_law_2601 rfl ?_
  refine x_iconst (v := (nI 2)) C dL_law_2603 (by decide) ?_
  refine x_iadd C dL_law_2604 ?_
  obtain ⟨hi1030, h1⟩ := h1
  refine x_sald C hSc hi1030 dL_law_2605 ?_
  obtain ⟨n1031, hr1032, h1⟩ := h1
  obtain ⟨ht1033, h1⟩ := h1
  obtain ⟨hc1034, hc1035, h1⟩ := h1
  refine x_callV (rm' := rm_X12_edit) (n := n1031) C (kp_X12_edit_met h1) lk_209 gw_1183 gw_1184 xv_12 rfl hr1032 ht1033 rfl (Nat.le_of_ble_eq_true rfl) ⟨Nat.le_of_ble_eq_true rfl, Nat.le_of_ble_eq_true rfl, hc1034, hc1035⟩ dL_law_2606 xm_kx (xm_ki (fun r1037 S1036 h1 => ?_))
  refine x_istore (L' := [(6, xm_i r1037), (5, xm_i r1028), (0, xm_w0 b), (1, xm_r x1), (2, xm_r x2), (3, xm_r x3), (4, xm_i x4)]) C dL_law_2609 (by decide) rfl ?_
  refine x_aload_n C 4 dL_law_2611 rfl rfl ?_
  obtain ⟨n1038, hr1039, h1⟩ := h1
  obtain ⟨ht1040, h1⟩ := h1
  obtain ⟨hc1041, hc1042, h1⟩ := h1
  refine x_callV (rm' := rm_X12_thrown) (n := n1038) C (kp_X12_thrown_met h1) lk_171 gw_941 gw_942 xv_12 rfl hr1039 ht1040 rfl (Nat.le_of_ble_eq_true rfl) ⟨Nat.le_of_ble_eq_true rfl, Nat.le_of_ble_eq_true rfl, hc1041, hc1042⟩ dL_law_2612 xm_kx (xm_ki (fun r1044 S1043 h1 => ?_))
  refine x_iload C 1 dL_law_2615 rfl ?_
  refine x_icmp_eq (tgt := 2622) C dL_law_2617 (by decide) (fun z9 => ?_) (fun z9 => ?_)
  · have h1 := h1.1 z9
    refine x_iload C 1 dL_law_2622 rfl ?_
    refine x_if_ne (tgt := 2639) C dL_law_2624 (by decide) (fun z9 => ?_) (fun z9 => ?_)
    · have h1 := h1.1 z9
      refine x_keep (L' := [(0, xm_w0 b), (1, xm_r x1), (2, xm_r x2), (3, xm_r x3), (4, xm_i x4)]) C [2, 3, 4, 5, 6] rfl ?_
      exact kp_L_law_2639 b len xs x1 x2 x3 x4 S1043 (kc + 3) (ks + 18) C N hSc hg hZ23 h1
    · have h1 := h1.2 z9
      refine x_aload_n C 5 dL_law_2627 rfl rfl ?_
      refine x_iconst (v := (0 : Int32)) C dL_law_2628 (by decide) ?_
      obtain ⟨n1045, hr1046, h1⟩ := h1
      obtain ⟨z1048, ht1047, h1⟩ := h1
      obtain ⟨hi1049, h1⟩ := h1
      refine x_lald (n := n1045) C hr1046 ht1047 hi1049 dL_law_2629 ?_
      refine x_iload C 0 dL_law_2630 rfl ?_
      refine x_i2l C dL_law_2632 ?_
      refine x_lcmp C dL_law_2633 ?_
      refine x_if_eq (tgt := 2639) C dL_law_2634 (by decide) (fun z9 => ?_) (fun z9 => ?_)
      · have h1 := h1.1 z9
        refine x_keep (L' := [(0, xm_w0 b), (1, xm_r x1), (2, xm_r x2), (3, xm_r x3), (4, xm_i x4)]) C [2, 3, 4, 5, 6] rfl ?_
        exact kp_L_law_2639 b len xs x1 x2 x3 x4 S1043 (kc + 3) (ks + 18) C N hSc hg hZ23 h1
      · have h1 := h1.2 z9
        refine x_iconst (v := (0 : Int32)) C dL_law_2637 (by decide) ?_
        obtain ⟨hc1050, hc1051, h1⟩ := h1
        exact x_zret C hc1050 hc1051 rfl (by decide) dL_law_2638 (hg _ _ h1)
  · have h1 := h1.2 z9
    refine x_iconst (v := (0 : Int32)) C dL_law_2620 (by decide) ?_
    obtain ⟨hc1052, hc1053, h1⟩ := h1
    exact x_zret C hc1052 hc1053 rfl (by decide) dL_law_2621 (hg _ _ h1)
def wp_L_law_2707 (b len : Nat) (xs : Nat → Int32) (x1 : Option Nat) (x2 : Option Nat) (x3 : Option Nat) (x4 : Int32) (S : xm_S) (kc ks : Nat) (g : Int32 → xm_S → Prop) (Z23 : Option Nat → Option Nat → Option Nat → Int32 → xm_S → Nat → Nat → Prop) : Prop :=
  wp_L_law_2965 b len xs x1 x2 x3 x4 S kc ks g Z23
set_option maxRecDepth 100000 in
set_option maxHeartbeats 4000000 in
theorem kp_L_law_2707 {K : xm_K} (b len : Nat) (xs : Nat → Int32) (x1 : Option Nat) (x2 : Option Nat) (x3 : Option Nat) (x4 : Int32) (S : xm_S) (kc ks : Nat) {g : Int32 → xm_S → Prop} {Z23 : Option Nat → Option Nat → Option Nat → Int32 → xm_S → Nat → Nat → Prop} (C : xm_Cx K cL_law RL 7 (some .boolean) rm_L_law) (N : xm_Nx K) (hSc : xm_Sc K b len xs) (hg : ∀ v S, g v S → xm_q K (some (xm_i v)) S) (hZ23 : ∀ x1 x2 x3 x4 S kc ks, Z23 x1 x2 x3 x4 S kc ks → xm_W K kc ks 23 [(0, xm_w0 b), (1, xm_r x1), (2, xm_r x2), (3, xm_r x3), (4, xm_i x4)] [] S) (h1 : wp_L_law_2707 b len xs x1 x2 x3 x4 S kc ks g Z23) : xm_W K kc ks 2707 [(0, xm_w0 b), (1, xm_r x1), (2, xm_r x2), (3, xm_r x3), (4, xm_i x4)] [] S := by
  unfold wp_L_law_2707 at h1
  refine x_goto (tgt := 2965) C dL_law_2707 (by decide) ?_
  exact kp_L_law_2965 b len xs x1 x2 x3 x4 S kc ks C N hSc hg hZ23 h1
def wp_L_law_2642 (b len : Nat) (xs : Nat → Int32) (x1 : Option Nat) (x2 : Option Nat) (x3 : Option Nat) (x4 : Int32) (S : xm_S) (kc ks : Nat) (g : Int32 → xm_S → Prop) (Z23 : Option Nat → Option Nat → Option Nat → Int32 → xm_S → Nat → Nat → Prop) : Prop :=
  vp_in (x4 + (1 : Int32)) len ∧ vp_in (x4 + (nI 2)) len ∧ kc + 2 ≤ 601024 ∧ ks + 12 ≤ 7293034 ∧ wp_L_path x1 (xs ((x4 + (1 : Int32))).toNatClampNeg) (xs ((x4 + (nI 2))).toNatClampNeg) x3 S (fun r1059 S1058 => vp_in (x4 + (1 : Int32)) len ∧ vp_in (x4 + (nI 2)) len ∧ ∃ n1062, x2 = some n1062 ∧ st_t S1058 n1062 = some (12, 0) ∧ (kc + 2) ≤ 601024 ∧ (ks + 12) ≤ 7293034 ∧ wp_X12_path n1062 (xs ((x4 + (1 : Int32))).toNatClampNeg) (xs ((x4 + (nI 2))).toNatClampNeg) S1058 (fun r1068 S1067 => ∃ n1069, x2 = some n1069 ∧ st_t S1067 n1069 = some (12, 0) ∧ (kc + 2) ≤ 601024 ∧ (ks + 12) ≤ 7293034 ∧ wp_X12_thrown n1069 S1067 (fun r1075 S1074 => (r1075 = r1059 → (¬ r1059 = 0 → wp_L_law_2707 b len xs x1 x2 x3 x4 S1074 (kc + 2) (ks + 12) g Z23) ∧ (r1059 = 0 → ∃ n1076, x3 = some n1076 ∧ ∃ z1079, st_t S1074 n1076 = some (103, z1079) ∧ vp_in (0 : Int32) z1079 ∧ ((lg_cmp (st_l S1074 n1076 ((0 : Int32)).toNatClampNeg) ((r1068).toInt64)) = 0 → wp_L_law_2707 b len xs x1 x2 x3 x4 S1074 (kc + 2) (ks + 12) g Z23) ∧ (¬ (lg_cmp (st_l S1074 n1076 ((0 : Int32)).toNatClampNeg) ((r1068).toInt64)) = 0 → (kc + 2) ≤ 601024 ∧ (ks + 12) ≤ 7293034 ∧ g (0 : Int32) S1074))) ∧ (¬ r1075 = r1059 → (kc + 2) ≤ 601024 ∧ (ks + 12) ≤ 7293034 ∧ g (0 : Int32) S1074))))
set_option maxRecDepth 100000 in
set_option maxHeartbeats 4000000 in
theorem kp_L_law_2642 {K : xm_K} (b len : Nat) (xs : Nat → Int32) (x1 : Option Nat) (x2 : Option Nat) (x3 : Option Nat) (x4 : Int32) (S : xm_S) (kc ks : Nat) {g : Int32 → xm_S → Prop} {Z23 : Option Nat → Option Nat → Option Nat → Int32 → xm_S → Nat → Nat → Prop} (C : xm_Cx K cL_law RL 7 (some .boolean) rm_L_law) (N : xm_Nx K) (hSc : xm_Sc K b len xs) (hg : ∀ v S, g v S → xm_q K (some (xm_i v)) S) (hZ23 : ∀ x1 x2 x3 x4 S kc ks, Z23 x1 x2 x3 x4 S kc ks → xm_W K kc ks 23 [(0, xm_w0 b), (1, xm_r x1), (2, xm_r x2), (3, xm_r x3), (4, xm_i x4)] [] S) (h1 : wp_L_law_2642 b len xs x1 x2 x3 x4 S kc ks g Z23) : xm_W K kc ks 2642 [(0, xm_w0 b), (1, xm_r x1), (2, xm_r x2), (3, xm_r x3), (4, xm_i x4)] [] S := by
  unfold wp_L_law_2642 at h1
  refine x_aload_n C 1 dL_law_2642 rfl rfl ?_
  refine x_aload_n_w C 0 dL_law_2643 rfl rfl ?_
  refine x_iload C 4 dL_law_2644 rfl ?_
  refine x_iconst (v := (1 : Int32)) C dL_law_2646 (by decide) ?_
  refine x_iadd C dL_law_2647 ?_
  obtain ⟨hi1054, h1⟩ := h1
  refine x_sald C hSc hi1054 dL_law_2648 ?_
  refine x_aload_n_w C 0 dL_law_2649 rfl rfl ?_
  refine x_iload C 4 dL_law_2650 rfl ?_
  refine x_iconst (v := (nI 2)) C dL_law_2652 (by decide) ?_
  refine x_iadd C dL_law_2653 ?_
  obtain ⟨hi1055, h1⟩ := h1
  refine x_sald C hSc hi1055 dL_law_2654 ?_
  refine x_aload_n C 3 dL_law_2655 rfl rfl ?_
  obtain ⟨hc1056, hc1057, h1⟩ := h1
  refine x_callSH (rm' := rm_L_path) (hh := [(0, 10, 13, 13)]) C (kp_L_path_met h1) gw_1185 gw_932 gw_1186 ⟨by decide, by decide, show Option.map _ (parseMethodDescriptor yL_path.desc) = some 4 from by decide +kernel⟩ gw_1187 rfl (Nat.le_of_ble_eq_true rfl) ⟨Nat.le_of_ble_eq_true rfl, Nat.le_of_ble_eq_true rfl, hc1056, hc1057⟩ dL_law_2656 xm_kx (xm_ki (fun r1059 S1058 h1 => ?_))
  refine x_istore (L' := [(5, xm_i r1059), (0, xm_w0 b), (1, xm_r x1), (2, xm_r x2), (3, xm_r x3), (4, xm_i x4)]) C dL_law_2659 (by decide) rfl ?_
  refine x_aload_n C 3 dL_law_2661 rfl rfl ?_
  refine x_aload_n_w C 1 dL_law_2662 rfl rfl ?_
  refine x_iload C 5 dL_law_2663 rfl ?_
  refine x_iconst (v := (1 : Int32)) C dL_law_2665 (by decide) ?_
  refine x_iadd C dL_law_2666 ?_
  obtain ⟨hi1060, h1⟩ := h1
  refine x_sald C hSc hi1060 dL_law_2667 ?_
  refine x_aload_n_w C 1 dL_law_2668 rfl rfl ?_
  refine x_iload C 5 dL_law_2669 rfl ?_
  refine x_iconst (v := (nI 2)) C dL_law_2671 (by decide) ?_
  refine x_iadd C dL_law_2672 ?_
  obtain ⟨hi1061, h1⟩ := h1
  refine x_sald C hSc hi1061 dL_law_2673 ?_
  obtain ⟨n1062, hr1063, h1⟩ := h1
  obtain ⟨ht1064, h1⟩ := h1
  obtain ⟨hc1065, hc1066, h1⟩ := h1
  refine x_callV (rm' := rm_X12_path) (n := n1062) C (kp_X12_path_met h1) lk_210 gw_1190 gw_1191 xv_12 rfl hr1063 ht1064 rfl (Nat.le_of_ble_eq_true rfl) ⟨Nat.le_of_ble_eq_true rfl, Nat.le_of_ble_eq_true rfl, hc1065, hc1066⟩ dL_law_2674 xm_kx (xm_ki (fun r1068 S1067 h1 => ?_))
  refine x_istore (L' := [(6, xm_i r1068), (5, xm_i r1059), (0, xm_w0 b), (1, xm_r x1), (2, xm_r x2), (3, xm_r x3), (4, xm_i x4)]) C dL_law_2677 (by decide) rfl ?_
  refine x_aload_n C 4 dL_law_2679 rfl rfl ?_
  obtain ⟨n1069, hr1070, h1⟩ := h1
  obtain ⟨ht1071, h1⟩ := h1
  obtain ⟨hc1072, hc1073, h1⟩ := h1
  refine x_callV (rm' := rm_X12_thrown) (n := n1069) C (kp_X12_thrown_met h1) lk_171 gw_941 gw_942 xv_12 rfl hr1070 ht1071 rfl (Nat.le_of_ble_eq_true rfl) ⟨Nat.le_of_ble_eq_true rfl, Nat.le_of_ble_eq_true rfl, hc1072, hc1073⟩ dL_law_2680 xm_kx (xm_ki (fun r1075 S1074 h1 => ?_))
  refine x_iload C 1 dL_law_2683 rfl ?_
  refine x_icmp_eq (tgt := 2690) C dL_law_2685 (by decide) (fun z9 => ?_) (fun z9 => ?_)
  · have h1 := h1.1 z9
    refine x_iload C 1 dL_law_2690 rfl ?_
    refine x_if_ne (tgt := 2707) C dL_law_2692 (by decide) (fun z9 => ?_) (fun z9 => ?_)
    · have h1 := h1.1 z9
      refine x_keep (L' := [(0, xm_w0 b), (1, xm_r x1), (2, xm_r x2), (3, xm_r x3), (4, xm_i x4)]) C [2, 3, 4, 5, 6] rfl ?_
      exact kp_L_law_2707 b len xs x1 x2 x3 x4 S1074 (kc + 2) (ks + 12) C N hSc hg hZ23 h1
    · have h1 := h1.2 z9
      refine x_aload_n C 5 dL_law_2695 rfl rfl ?_
      refine x_iconst (v := (0 : Int32)) C dL_law_2696 (by decide) ?_
      obtain ⟨n1076, hr1077, h1⟩ := h1
      obtain ⟨z1079, ht1078, h1⟩ := h1
      obtain ⟨hi1080, h1⟩ := h1
      refine x_lald (n := n1076) C hr1077 ht1078 hi1080 dL_law_2697 ?_
      refine x_iload C 0 dL_law_2698 rfl ?_
      refine x_i2l C dL_law_2700 ?_
      refine x_lcmp C dL_law_2701 ?_
      refine x_if_eq (tgt := 2707) C dL_law_2702 (by decide) (fun z9 => ?_) (fun z9 => ?_)
      · have h1 := h1.1 z9
        refine x_keep (L' := [(0, xm_w0 b), (1, xm_r x1), (2, xm_r x2), (3, xm_r x3), (4, xm_i x4)]) C [2, 3, 4, 5, 6] rfl ?_
        exact kp_L_law_2707 b len xs x1 x2 x3 x4 S1074 (kc + 2) (ks + 12) C N hSc hg hZ23 h1
      · have h1 := h1.2 z9
        refine x_iconst (v := (0 : Int32)) C dL_law_2705 (by decide) ?_
        obtain ⟨hc1081, hc1082, h1⟩ := h1
        exact x_zret C hc1081 hc1082 rfl (by decide) dL_law_2706 (hg _ _ h1)
  · have h1 := h1.2 z9
    refine x_iconst (v := (0 : Int32)) C dL_law_2688 (by decide) ?_
    obtain ⟨hc1083, hc1084, h1⟩ := h1
    exact x_zret C hc1083 hc1084 rfl (by decide) dL_law_2689 (hg _ _ h1)
def wp_L_law_2763 (b len : Nat) (xs : Nat → Int32) (x1 : Option Nat) (x2 : Option Nat) (x3 : Option Nat) (x4 : Int32) (S : xm_S) (kc ks : Nat) (g : Int32 → xm_S → Prop) (Z23 : Option Nat → Option Nat → Option Nat → Int32 → xm_S → Nat → Nat → Prop) : Prop :=
  wp_L_law_2965 b len xs x1 x2 x3 x4 S kc ks g Z23
set_option maxRecDepth 100000 in
set_option maxHeartbeats 4000000 in
theorem kp_L_law_2763 {K : xm_K} (b len : Nat) (xs : Nat → Int32) (x1 : Option Nat) (x2 : Option Nat) (x3 : Option Nat) (x4 : Int32) (S : xm_S) (kc ks : Nat) {g : Int32 → xm_S → Prop} {Z23 : Option Nat → Option Nat → Option Nat → Int32 → xm_S → Nat → Nat → Prop} (C : xm_Cx K cL_law RL 7 (some .boolean) rm_L_law) (N : xm_Nx K) (hSc : xm_Sc K b len xs) (hg : ∀ v S, g v S → xm_q K (some (xm_i v)) S) (hZ23 : ∀ x1 x2 x3 x4 S kc ks, Z23 x1 x2 x3 x4 S kc ks → xm_W K kc ks 23 [(0, xm_w0 b), (1, xm_r x1), (2, xm_r x2), (3, xm_r x3), (4, xm_i x4)] [] S) (h1 : wp_L_law_2763 b len xs x1 x2 x3 x4 S kc ks g Z23) : xm_W K kc ks 2763 [(0, xm_w0 b), (1, xm_r x1), (2, xm_r x2), (3, xm_r x3), (4, xm_i x4)] [] S := by
  unfold wp_L_law_2763 at h1
  refine x_goto (tgt := 2965) C dL_law_2763 (by decide) ?_
  exact kp_L_law_2965 b len xs x1 x2 x3 x4 S kc ks C N hSc hg hZ23 h1
def wp_L_law_2710 (b len : Nat) (xs : Nat → Int32) (x1 : Option Nat) (x2 : Option Nat) (x3 : Option Nat) (x4 : Int32) (S : xm_S) (kc ks : Nat) (g : Int32 → xm_S → Prop) (Z23 : Option Nat → Option Nat → Option Nat → Int32 → xm_S → Nat → Nat → Prop) : Prop :=
  vp_in (x4 + (1 : Int32)) len ∧ kc + 1 ≤ 601024 ∧ ks + 6 ≤ 7293034 ∧ wp_L_installed x1 (xs ((x4 + (1 : Int32))).toNatClampNeg) x3 S (fun r1089 S1088 => vp_in (x4 + (1 : Int32)) len ∧ ∃ n1091, x2 = some n1091 ∧ st_t S1088 n1091 = some (12, 0) ∧ (kc + 1) ≤ 601024 ∧ (ks + 6) ≤ 7293034 ∧ wp_X12_installed n1091 (xs ((x4 + (1 : Int32))).toNatClampNeg) S1088 (fun r1097 S1096 => ∃ n1098, x2 = some n1098 ∧ st_t S1096 n1098 = some (12, 0) ∧ (kc + 1) ≤ 601024 ∧ (ks + 6) ≤ 7293034 ∧ wp_X12_thrown n1098 S1096 (fun r1104 S1103 => (r1104 = r1089 → (¬ r1089 = 0 → wp_L_law_2763 b len xs x1 x2 x3 x4 S1103 (kc + 1) (ks + 6) g Z23) ∧ (r1089 = 0 → ∃ n1105, x3 = some n1105 ∧ ∃ z1108, st_t S1103 n1105 = some (103, z1108) ∧ vp_in (0 : Int32) z1108 ∧ ((lg_cmp (st_l S1103 n1105 ((0 : Int32)).toNatClampNeg) ((r1097).toInt64)) = 0 → wp_L_law_2763 b len xs x1 x2 x3 x4 S1103 (kc + 1) (ks + 6) g Z23) ∧ (¬ (lg_cmp (st_l S1103 n1105 ((0 : Int32)).toNatClampNeg) ((r1097).toInt64)) = 0 → (kc + 1) ≤ 601024 ∧ (ks + 6) ≤ 7293034 ∧ g (0 : Int32) S1103))) ∧ (¬ r1104 = r1089 → (kc + 1) ≤ 601024 ∧ (ks + 6) ≤ 7293034 ∧ g (0 : Int32) S1103))))
set_option maxRecDepth 100000 in
set_option maxHeartbeats 4000000 in
theorem kp_L_law_2710 {K : xm_K} (b len : Nat) (xs : Nat → Int32) (x1 : Option Nat) (x2 : Option Nat) (x3 : Option Nat) (x4 : Int32) (S : xm_S) (kc ks : Nat) {g : Int32 → xm_S → Prop} {Z23 : Option Nat → Option Nat → Option Nat → Int32 → xm_S → Nat → Nat → Prop} (C : xm_Cx K cL_law RL 7 (some .boolean) rm_L_law) (N : xm_Nx K) (hSc : xm_Sc K b len xs) (hg : ∀ v S, g v S → xm_q K (some (xm_i v)) S) (hZ23 : ∀ x1 x2 x3 x4 S kc ks, Z23 x1 x2 x3 x4 S kc ks → xm_W K kc ks 23 [(0, xm_w0 b), (1, xm_r x1), (2, xm_r x2), (3, xm_r x3), (4, xm_i x4)] [] S) (h1 : wp_L_law_2710 b len xs x1 x2 x3 x4 S kc ks g Z23) : xm_W K kc ks 2710 [(0, xm_w0 b), (1, xm_r x1), (2, xm_r x2), (3, xm_r x3), (4, xm_i x4)] [] S := by
  unfold wp_L_law_2710 at h1
  refine x_aload_n C 1 dL_law_2710 rfl rfl ?_
  refine x_aload_n_w C 0 dL_law_2711 rfl rfl ?_
  refine x_iload C 4 dL_law_2712 rfl ?_
  refine x_iconst (v := (1 : Int32)) C dL_law_2714 (by decide) ?_
  refine x_iadd C dL_law_2715 ?_
  obtain ⟨hi1085, h1⟩ := h1
  refine x_sald C hSc hi1085 dL_law_2716 ?_
  refine x_aload_n C 3 dL_law_2717 rfl rfl ?_
  obtain ⟨hc1086, hc1087, h1⟩ := h1
  refine x_callSH (rm' := rm_L_installed) (hh := [(0, 9, 12, 21)]) C (kp_L_installed_met h1) gw_1192 gw_932 gw_1193 ⟨by decide, by decide, show Option.map _ (parseMethodDescriptor yL_installed.desc) = some 3 from by decide +kernel⟩ gw_1194 rfl (Nat.le_of_ble_eq_true rfl) ⟨Nat.le_of_ble_eq_true rfl, Nat.le_of_ble_eq_true rfl, hc1086, hc1087⟩ dL_law_2718 xm_kx (xm_ki (fun r1089 S1088 h1 => ?_))
  refine x_istore (L' := [(5, xm_i r1089), (0, xm_w0 b), (1, xm_r x1), (2, xm_r x2), (3, xm_r x3), (4, xm_i x4)]) C dL_law_2721 (by decide) rfl ?_
  refine x_aload_n C 3 dL_law_2723 rfl rfl ?_
  refine x_aload_n_w C 1 dL_law_2724 rfl rfl ?_
  refine x_iload C 5 dL_law_2725 rfl ?_
  refine x_iconst (v := (1 : Int32)) C dL_law_2727 (by decide) ?_
  refine x_iadd C dL_law_2728 ?_
  obtain ⟨hi1090, h1⟩ := h1
  refine x_sald C hSc hi1090 dL_law_2729 ?_
  obtain ⟨n1091, hr1092, h1⟩ := h1
  obtain ⟨ht1093, h1⟩ := h1
  obtain ⟨hc1094, hc1095, h1⟩ := h1
  refine x_callV (rm' := rm_X12_installed) (n := n1091) C (kp_X12_installed_met h1) lk_211 gw_1197 gw_1198 xv_12 rfl hr1092 ht1093 rfl (Nat.le_of_ble_eq_true rfl) ⟨Nat.le_of_ble_eq_true rfl, Nat.le_of_ble_eq_true rfl, hc1094, hc1095⟩ dL_law_2730 xm_kx (xm_ki (fun r1097 S1096 h1 => ?_))
  refine x_istore (L' := [(6, xm_i r1097), (5, xm_i r1089), (0, xm_w0 b), (1, xm_r x1), (2, xm_r x2), (3, xm_r x3), (4, xm_i x4)]) C dL_law_2733 (by decide) rfl ?_
  refine x_aload_n C 4 dL_law_2735 rfl rfl ?_
  obtain ⟨n1098, hr1099, h1⟩ := h1
  obtain ⟨ht1100, h1⟩ := h1
  obtain ⟨hc1101, hc1102, h1⟩ := h1
  refine x_callV (rm' := rm_X12_thrown) (n := n1098) C (kp_X12_thrown_met h1) lk_171 gw_941 gw_942 xv_12 rfl hr1099 ht1100 rfl (Nat.le_of_ble_eq_true rfl) ⟨Nat.le_of_ble_eq_true rfl, Nat.le_of_ble_eq_true rfl, hc1101, hc1102⟩ dL_law_2736 xm_kx (xm_ki (fun r1104 S1103 h1 => ?_))
  refine x_iload C 1 dL_law_2739 rfl ?_
  refine x_icmp_eq (tgt := 2746) C dL_law_2741 (by decide) (fun z9 => ?_) (fun z9 => ?_)
  · have h1 := h1.1 z9
    refine x_iload C 1 dL_law_2746 rfl ?_
    refine x_if_ne (tgt := 2763) C dL_law_2748 (by decide) (fun z9 => ?_) (fun z9 => ?_)
    · have h1 := h1.1 z9
      refine x_keep (L' := [(0, xm_w0 b), (1, xm_r x1), (2, xm_r x2), (3, xm_r x3), (4, xm_i x4)]) C [2, 3, 4, 5, 6] rfl ?_
      exact kp_L_law_2763 b len xs x1 x2 x3 x4 S1103 (kc + 1) (ks + 6) C N hSc hg hZ23 h1
    · have h1 := h1.2 z9
      refine x_aload_n C 5 dL_law_2751 rfl rfl ?_
      refine x_iconst (v := (0 : Int32)) C dL_law_2752 (by decide) ?_
      obtain ⟨n1105, hr1106, h1⟩ := h1
      obtain ⟨z1108, ht1107, h1⟩ := h1
      obtain ⟨hi1109, h1⟩ := h1
      refine x_lald (n := n1105) C hr1106 ht1107 hi1109 dL_law_2753 ?_
      refine x_iload C 0 dL_law_2754 rfl ?_
      refine x_i2l C dL_law_2756 ?_
      refine x_lcmp C dL_law_2757 ?_
      refine x_if_eq (tgt := 2763) C dL_law_2758 (by decide) (fun z9 => ?_) (fun z9 => ?_)
      · have h1 := h1.1 z9
        refine x_keep (L' := [(0, xm_w0 b), (1, xm_r x1), (2, xm_r x2), (3, xm_r x3), (4, xm_i x4)]) C [2, 3, 4, 5, 6] rfl ?_
        exact kp_L_law_2763 b len xs x1 x2 x3 x4 S1103 (kc + 1) (ks + 6) C N hSc hg hZ23 h1
      · have h1 := h1.2 z9
        refine x_iconst (v := (0 : Int32)) C dL_law_2761 (by decide) ?_
        obtain ⟨hc1110, hc1111, h1⟩ := h1
        exact x_zret C hc1110 hc1111 rfl (by decide) dL_law_2762 (hg _ _ h1)
  · have h1 := h1.2 z9
    refine x_iconst (v := (0 : Int32)) C dL_law_2744 (by decide) ?_
    obtain ⟨hc1112, hc1113, h1⟩ := h1
    exact x_zret C hc1112 hc1113 rfl (by decide) dL_law_2745 (hg _ _ h1)
def wp_L_law_2766 (b len : Nat) (xs : Nat → Int32) (x1 : Option Nat) (x2 : Option Nat) (x3 : Option Nat) (x4 : Int32) (S : xm_S) (kc ks : Nat) (g : Int32 → xm_S → Prop) (Z23 : Option Nat → Option Nat → Option Nat → Int32 → xm_S → Nat → Nat → Prop) : Prop :=
  ∃ n1114, x1 = some n1114 ∧ st_t S n1114 = some (11, 0) ∧ kc ≤ 601024 ∧ ks ≤ 7293034 ∧ wp_X11_aside n1114 S (fun r1120 S1119 => ∃ n1121, x2 = some n1121 ∧ st_t S1119 n1121 = some (12, 0) ∧ kc ≤ 601024 ∧ ks ≤ 7293034 ∧ wp_X12_aside n1121 S1119 (fun r1127 S1126 => (r1120 = r1127 → wp_L_law_2965 b len xs x1 x2 x3 x4 S1126 kc ks g Z23) ∧ (¬ r1120 = r1127 → kc ≤ 601024 ∧ ks ≤ 7293034 ∧ g (0 : Int32) S1126)))
set_option maxRecDepth 100000 in
set_option maxHeartbeats 4000000 in
theorem kp_L_law_2766 {K : xm_K} (b len : Nat) (xs : Nat → Int32) (x1 : Option Nat) (x2 : Option Nat) (x3 : Option Nat) (x4 : Int32) (S : xm_S) (kc ks : Nat) {g : Int32 → xm_S → Prop} {Z23 : Option Nat → Option Nat → Option Nat → Int32 → xm_S → Nat → Nat → Prop} (C : xm_Cx K cL_law RL 7 (some .boolean) rm_L_law) (N : xm_Nx K) (hSc : xm_Sc K b len xs) (hg : ∀ v S, g v S → xm_q K (some (xm_i v)) S) (hZ23 : ∀ x1 x2 x3 x4 S kc ks, Z23 x1 x2 x3 x4 S kc ks → xm_W K kc ks 23 [(0, xm_w0 b), (1, xm_r x1), (2, xm_r x2), (3, xm_r x3), (4, xm_i x4)] [] S) (h1 : wp_L_law_2766 b len xs x1 x2 x3 x4 S kc ks g Z23) : xm_W K kc ks 2766 [(0, xm_w0 b), (1, xm_r x1), (2, xm_r x2), (3, xm_r x3), (4, xm_i x4)] [] S := by
  unfold wp_L_law_2766 at h1
  refine x_aload_n C 1 dL_law_2766 rfl rfl ?_
  obtain ⟨n1114, hr1115, h1⟩ := h1
  obtain ⟨ht1116, h1⟩ := h1
  obtain ⟨hc1117, hc1118, h1⟩ := h1
  refine x_callV (rm' := rm_X11_aside) (n := n1114) C (kp_X11_aside_met h1) lk_212 gw_1201 gw_1202 xv_11 rfl hr1115 ht1116 rfl (Nat.le_of_ble_eq_true rfl) ⟨Nat.le_of_ble_eq_true rfl, Nat.le_of_ble_eq_true rfl, hc1117, hc1118⟩ dL_law_2767 xm_kx (xm_ki (fun r1120 S1119 h1 => ?_))
  refine x_aload_n C 2 dL_law_2770 rfl rfl ?_
  obtain ⟨n1121, hr1122, h1⟩ := h1
  obtain ⟨ht1123, h1⟩ := h1
  obtain ⟨hc1124, hc1125, h1⟩ := h1
  refine x_callV (rm' := rm_X12_aside) (n := n1121) C (kp_X12_aside_met h1) lk_213 gw_1205 gw_1206 xv_12 rfl hr1122 ht1123 rfl (Nat.le_of_ble_eq_true rfl) ⟨Nat.le_of_ble_eq_true rfl, Nat.le_of_ble_eq_true rfl, hc1124, hc1125⟩ dL_law_2771 xm_kx (xm_ki (fun r1127 S1126 h1 => ?_))
  refine x_icmp_eq (tgt := 2965) C dL_law_2774 (by decide) (fun z9 => ?_) (fun z9 => ?_)
  · have h1 := h1.1 z9
    exact kp_L_law_2965 b len xs x1 x2 x3 x4 S1126 kc ks C N hSc hg hZ23 h1
  · have h1 := h1.2 z9
    refine x_iconst (v := (0 : Int32)) C dL_law_2777 (by decide) ?_
    obtain ⟨hc1128, hc1129, h1⟩ := h1
    exact x_zret C hc1128 hc1129 rfl (by decide) dL_law_2778 (hg _ _ h1)
def wp_L_law_2867 (b len : Nat) (xs : Nat → Int32) (x1 : Option Nat) (x2 : Option Nat) (x3 : Option Nat) (x4 : Int32) (S : xm_S) (kc ks : Nat) (g : Int32 → xm_S → Prop) (Z23 : Option Nat → Option Nat → Option Nat → Int32 → xm_S → Nat → Nat → Prop) : Prop :=
  wp_L_law_2965 b len xs x1 x2 x3 x4 S kc ks g Z23
set_option maxRecDepth 100000 in
set_option maxHeartbeats 4000000 in
theorem kp_L_law_2867 {K : xm_K} (b len : Nat) (xs : Nat → Int32) (x1 : Option Nat) (x2 : Option Nat) (x3 : Option Nat) (x4 : Int32) (S : xm_S) (kc ks : Nat) {g : Int32 → xm_S → Prop} {Z23 : Option Nat → Option Nat → Option Nat → Int32 → xm_S → Nat → Nat → Prop} (C : xm_Cx K cL_law RL 7 (some .boolean) rm_L_law) (N : xm_Nx K) (hSc : xm_Sc K b len xs) (hg : ∀ v S, g v S → xm_q K (some (xm_i v)) S) (hZ23 : ∀ x1 x2 x3 x4 S kc ks, Z23 x1 x2 x3 x4 S kc ks → xm_W K kc ks 23 [(0, xm_w0 b), (1, xm_r x1), (2, xm_r x2), (3, xm_r x3), (4, xm_i x4)] [] S) (h1 : wp_L_law_2867 b len xs x1 x2 x3 x4 S kc ks g Z23) : xm_W K kc ks 2867 [(0, xm_w0 b), (1, xm_r x1), (2, xm_r x2), (3, xm_r x3), (4, xm_i x4)] [] S := by
  unfold wp_L_law_2867 at h1
  refine x_goto (tgt := 2965) C dL_law_2867 (by decide) ?_
  exact kp_L_law_2965 b len xs x1 x2 x3 x4 S kc ks C N hSc hg hZ23 h1
def wp_L_law_2861 (b len : Nat) (xs : Nat → Int32) (x1 : Option Nat) (x2 : Option Nat) (x3 : Option Nat) (x4 : Int32) (s0 : Int64) (s1 : Int64) (S : xm_S) (kc ks : Nat) (g : Int32 → xm_S → Prop) (Z23 : Option Nat → Option Nat → Option Nat → Int32 → xm_S → Nat → Nat → Prop) : Prop :=
  ((lg_cmp s1 s0) = 0 → wp_L_law_2867 b len xs x1 x2 x3 x4 S kc ks g Z23) ∧ (¬ (lg_cmp s1 s0) = 0 → kc ≤ 601024 ∧ ks ≤ 7293034 ∧ g (0 : Int32) S)
set_option maxRecDepth 100000 in
set_option maxHeartbeats 4000000 in
theorem kp_L_law_2861 {K : xm_K} (b len : Nat) (xs : Nat → Int32) (x1 : Option Nat) (x2 : Option Nat) (x3 : Option Nat) (x4 : Int32) (s0 : Int64) (s1 : Int64) (S : xm_S) (kc ks : Nat) {g : Int32 → xm_S → Prop} {Z23 : Option Nat → Option Nat → Option Nat → Int32 → xm_S → Nat → Nat → Prop} (C : xm_Cx K cL_law RL 7 (some .boolean) rm_L_law) (N : xm_Nx K) (hSc : xm_Sc K b len xs) (hg : ∀ v S, g v S → xm_q K (some (xm_i v)) S) (hZ23 : ∀ x1 x2 x3 x4 S kc ks, Z23 x1 x2 x3 x4 S kc ks → xm_W K kc ks 23 [(0, xm_w0 b), (1, xm_r x1), (2, xm_r x2), (3, xm_r x3), (4, xm_i x4)] [] S) (h1 : wp_L_law_2861 b len xs x1 x2 x3 x4 s0 s1 S kc ks g Z23) : xm_W K kc ks 2861 [(0, xm_w0 b), (1, xm_r x1), (2, xm_r x2), (3, xm_r x3), (4, xm_i x4)] [xm_l s0, xm_l s1] S := by
  unfold wp_L_law_2861 at h1
  refine x_lcmp C dL_law_2861 ?_
  refine x_if_eq (tgt := 2867) C dL_law_2862 (by decide) (fun z9 => ?_) (fun z9 => ?_)
  · have h1 := h1.1 z9
    exact kp_L_law_2867 b len xs x1 x2 x3 x4 S kc ks C N hSc hg hZ23 h1
  · have h1 := h1.2 z9
    refine x_iconst (v := (0 : Int32)) C dL_law_2865 (by decide) ?_
    obtain ⟨hc1130, hc1131, h1⟩ := h1
    exact x_zret C hc1130 hc1131 rfl (by decide) dL_law_2866 (hg _ _ h1)
def wp_L_law_2827 (b len : Nat) (xs : Nat → Int32) (x1 : Option Nat) (x2 : Option Nat) (x3 : Option Nat) (x4 : Int32) (x5 : Int32) (s0 : Int32) (s1 : Int32) (s2 : Option Nat) (S : xm_S) (kc ks : Nat) (g : Int32 → xm_S → Prop) (Z23 : Option Nat → Option Nat → Option Nat → Int32 → xm_S → Nat → Nat → Prop) : Prop :=
  ∃ n1132, s2 = some n1132 ∧ st_t S n1132 = some (12, 0) ∧ kc ≤ 601024 ∧ ks ≤ 7293034 ∧ wp_X12_run n1132 s1 s0 S (fun r1138 S1137 => ∃ n1139, x2 = some n1139 ∧ st_t S1137 n1139 = some (12, 0) ∧ kc ≤ 601024 ∧ ks ≤ 7293034 ∧ wp_X12_thrown n1139 S1137 (fun r1145 S1144 => (r1145 = x5 → (¬ x5 = 0 → wp_L_law_2867 b len xs x1 x2 x3 x4 S1144 kc ks g Z23) ∧ (x5 = 0 → ∃ n1146, x3 = some n1146 ∧ ∃ z1149, st_t S1144 n1146 = some (103, z1149) ∧ vp_in (0 : Int32) z1149 ∧ (r1138 = 0 → wp_L_law_2861 b len xs x1 x2 x3 x4 (0 : Int64) (st_l S1144 n1146 ((0 : Int32)).toNatClampNeg) S1144 kc ks g Z23) ∧ (¬ r1138 = 0 → wp_L_law_2861 b len xs x1 x2 x3 x4 (1 : Int64) (st_l S1144 n1146 ((0 : Int32)).toNatClampNeg) S1144 kc ks g Z23))) ∧ (¬ r1145 = x5 → kc ≤ 601024 ∧ ks ≤ 7293034 ∧ g (0 : Int32) S1144)))
set_option maxRecDepth 100000 in
set_option maxHeartbeats 4000000 in
theorem kp_L_law_2827 {K : xm_K} (b len : Nat) (xs : Nat → Int32) (x1 : Option Nat) (x2 : Option Nat) (x3 : Option Nat) (x4 : Int32) (x5 : Int32) (s0 : Int32) (s1 : Int32) (s2 : Option Nat) (S : xm_S) (kc ks : Nat) {g : Int32 → xm_S → Prop} {Z23 : Option Nat → Option Nat → Option Nat → Int32 → xm_S → Nat → Nat → Prop} (C : xm_Cx K cL_law RL 7 (some .boolean) rm_L_law) (N : xm_Nx K) (hSc : xm_Sc K b len xs) (hg : ∀ v S, g v S → xm_q K (some (xm_i v)) S) (hZ23 : ∀ x1 x2 x3 x4 S kc ks, Z23 x1 x2 x3 x4 S kc ks → xm_W K kc ks 23 [(0, xm_w0 b), (1, xm_r x1), (2, xm_r x2), (3, xm_r x3), (4, xm_i x4)] [] S) (h1 : wp_L_law_2827 b len xs x1 x2 x3 x4 x5 s0 s1 s2 S kc ks g Z23) : xm_W K kc ks 2827 [(0, xm_w0 b), (1, xm_r x1), (2, xm_r x2), (3, xm_r x3), (4, xm_i x4), (5, xm_i x5)] [xm_i s0, xm_i s1, xm_r s2] S := by
  unfold wp_L_law_2827 at h1
  obtain ⟨n1132, hr1133, h1⟩ := h1
  obtain ⟨ht1134, h1⟩ := h1
  obtain ⟨hc1135, hc1136, h1⟩ := h1
  refine x_callV (rm' := rm_X12_run) (n := n1132) C (kp_X12_run_met h1) lk_214 gw_1209 gw_1210 xv_12 rfl hr1133 ht1134 rfl (Nat.le_of_ble_eq_true rfl) ⟨Nat.le_of_ble_eq_true rfl, Nat.le_of_ble_eq_true rfl, hc1135, hc1136⟩ dL_law_2827 xm_kx (xm_ki (fun r1138 S1137 h1 => ?_))
  refine x_istore (L' := [(6, xm_i r1138), (0, xm_w0 b), (1, xm_r x1), (2, xm_r x2), (3, xm_r x3), (4, xm_i x4), (5, xm_i x5)]) C dL_law_2830 (by decide) rfl ?_
  refine x_aload_n C 3 dL_law_2832 rfl rfl ?_
  obtain ⟨n1139, hr1140, h1⟩ := h1
  obtain ⟨ht1141, h1⟩ := h1
  obtain ⟨hc1142, hc1143, h1⟩ := h1
  refine x_callV (rm' := rm_X12_thrown) (n := n1139) C (kp_X12_thrown_met h1) lk_171 gw_941 gw_942 xv_12 rfl hr1140 ht1141 rfl (Nat.le_of_ble_eq_true rfl) ⟨Nat.le_of_ble_eq_true rfl, Nat.le_of_ble_eq_true rfl, hc1142, hc1143⟩ dL_law_2833 xm_kx (xm_ki (fun r1145 S1144 h1 => ?_))
  refine x_iload C 6 dL_law_2836 rfl ?_
  refine x_icmp_eq (tgt := 2843) C dL_law_2838 (by decide) (fun z9 => ?_) (fun z9 => ?_)
  · have h1 := h1.1 z9
    refine x_iload C 6 dL_law_2843 rfl ?_
    refine x_if_ne (tgt := 2867) C dL_law_2845 (by decide) (fun z9 => ?_) (fun z9 => ?_)
    · have h1 := h1.1 z9
      refine x_keep (L' := [(0, xm_w0 b), (1, xm_r x1), (2, xm_r x2), (3, xm_r x3), (4, xm_i x4)]) C [1, 2, 3, 4, 5] rfl ?_
      exact kp_L_law_2867 b len xs x1 x2 x3 x4 S1144 kc ks C N hSc hg hZ23 h1
    · have h1 := h1.2 z9
      refine x_aload_n C 4 dL_law_2848 rfl rfl ?_
      refine x_iconst (v := (0 : Int32)) C dL_law_2849 (by decide) ?_
      obtain ⟨n1146, hr1147, h1⟩ := h1
      obtain ⟨z1149, ht1148, h1⟩ := h1
      obtain ⟨hi1150, h1⟩ := h1
      refine x_lald (n := n1146) C hr1147 ht1148 hi1150 dL_law_2850 ?_
      refine x_iload C 0 dL_law_2851 rfl ?_
      refine x_if_eq (tgt := 2860) C dL_law_2853 (by decide) (fun z9 => ?_) (fun z9 => ?_)
      · have h1 := h1.1 z9
        refine x_lconst (v := (0 : Int64)) C dL_law_2860 (by decide) ?_
        refine x_keep (L' := [(0, xm_w0 b), (1, xm_r x1), (2, xm_r x2), (3, xm_r x3), (4, xm_i x4)]) C [1, 2, 3, 4, 5] rfl ?_
        exact kp_L_law_2861 b len xs x1 x2 x3 x4 (0 : Int64) (st_l S1144 n1146 ((0 : Int32)).toNatClampNeg) S1144 kc ks C N hSc hg hZ23 h1
      · have h1 := h1.2 z9
        refine x_lconst (v := (1 : Int64)) C dL_law_2856 (by decide) ?_
        refine x_goto (tgt := 2861) C dL_law_2857 (by decide) ?_
        refine x_keep (L' := [(0, xm_w0 b), (1, xm_r x1), (2, xm_r x2), (3, xm_r x3), (4, xm_i x4)]) C [1, 2, 3, 4, 5] rfl ?_
        exact kp_L_law_2861 b len xs x1 x2 x3 x4 (1 : Int64) (st_l S1144 n1146 ((0 : Int32)).toNatClampNeg) S1144 kc ks C N hSc hg hZ23 h1
  · have h1 := h1.2 z9
    refine x_iconst (v := (0 : Int32)) C dL_law_2841 (by decide) ?_
    obtain ⟨hc1151, hc1152, h1⟩ := h1
    exact x_zret C hc1151 hc1152 rfl (by decide) dL_law_2842 (hg _ _ h1)
def wp_L_law_2800 (b len : Nat) (xs : Nat → Int32) (x1 : Option Nat) (x2 : Option Nat) (x3 : Option Nat) (x4 : Int32) (s0 : Int32) (s1 : Int32) (s2 : Option Nat) (S : xm_S) (kc ks : Nat) (g : Int32 → xm_S → Prop) (Z23 : Option Nat → Option Nat → Option Nat → Int32 → xm_S → Nat → Nat → Prop) : Prop :=
  kc + 1 ≤ 601024 ∧ ks + 6 ≤ 7293034 ∧ wp_L_run s2 s1 s0 x3 S (fun r1156 S1155 => vp_in (x4 + (1 : Int32)) len ∧ vp_in (x4 + (nI 2)) len ∧ ((xs ((x4 + (nI 2))).toNatClampNeg) = 0 → wp_L_law_2827 b len xs x1 x2 x3 x4 r1156 (0 : Int32) (xs ((x4 + (1 : Int32))).toNatClampNeg) x2 S1155 (kc + 1) (ks + 6) g Z23) ∧ (¬ (xs ((x4 + (nI 2))).toNatClampNeg) = 0 → wp_L_law_2827 b len xs x1 x2 x3 x4 r1156 (1 : Int32) (xs ((x4 + (1 : Int32))).toNatClampNeg) x2 S1155 (kc + 1) (ks + 6) g Z23))
set_option maxRecDepth 100000 in
set_option maxHeartbeats 4000000 in
theorem kp_L_law_2800 {K : xm_K} (b len : Nat) (xs : Nat → Int32) (x1 : Option Nat) (x2 : Option Nat) (x3 : Option Nat) (x4 : Int32) (s0 : Int32) (s1 : Int32) (s2 : Option Nat) (S : xm_S) (kc ks : Nat) {g : Int32 → xm_S → Prop} {Z23 : Option Nat → Option Nat → Option Nat → Int32 → xm_S → Nat → Nat → Prop} (C : xm_Cx K cL_law RL 7 (some .boolean) rm_L_law) (N : xm_Nx K) (hSc : xm_Sc K b len xs) (hg : ∀ v S, g v S → xm_q K (some (xm_i v)) S) (hZ23 : ∀ x1 x2 x3 x4 S kc ks, Z23 x1 x2 x3 x4 S kc ks → xm_W K kc ks 23 [(0, xm_w0 b), (1, xm_r x1), (2, xm_r x2), (3, xm_r x3), (4, xm_i x4)] [] S) (h1 : wp_L_law_2800 b len xs x1 x2 x3 x4 s0 s1 s2 S kc ks g Z23) : xm_W K kc ks 2800 [(0, xm_w0 b), (1, xm_r x1), (2, xm_r x2), (3, xm_r x3), (4, xm_i x4)] [xm_i s0, xm_i s1, xm_r s2] S := by
  unfold wp_L_law_2800 at h1
  refine x_aload_n C 3 dL_law_2800 rfl rfl ?_
  obtain ⟨hc1153, hc1154, h1⟩ := h1
  refine x_callSH (rm' := rm_L_run) (hh := [(0, 17, 20, 21)]) C (kp_L_run_met h1) gw_1211 gw_932 gw_1212 ⟨by decide, by decide, show Option.map _ (parseMethodDescriptor yL_run.desc) = some 4 from by decide +kernel⟩ gw_1213 rfl (Nat.le_of_ble_eq_true rfl) ⟨Nat.le_of_ble_eq_true rfl, Nat.le_of_ble_eq_true rfl, hc1153, hc1154⟩ dL_law_2801 xm_kx (xm_ki (fun r1156 S1155 h1 => ?_))
  refine x_istore (L' := [(5, xm_i r1156), (0, xm_w0 b), (1, xm_r x1), (2, xm_r x2), (3, xm_r x3), (4, xm_i x4)]) C dL_law_2804 (by decide) rfl ?_
  refine x_aload_n C 3 dL_law_2806 rfl rfl ?_
  refine x_aload_n_w C 1 dL_law_2807 rfl rfl ?_
  refine x_iload C 5 dL_law_2808 rfl ?_
  refine x_iconst (v := (1 : Int32)) C dL_law_2810 (by decide) ?_
  refine x_iadd C dL_law_2811 ?_
  obtain ⟨hi1157, h1⟩ := h1
  refine x_sald C hSc hi1157 dL_law_2812 ?_
  refine x_aload_n_w C 1 dL_law_2813 rfl rfl ?_
  refine x_iload C 5 dL_law_2814 rfl ?_
  refine x_iconst (v := (nI 2)) C dL_law_2816 (by decide) ?_
  refine x_iadd C dL_law_2817 ?_
  obtain ⟨hi1158, h1⟩ := h1
  refine x_sald C hSc hi1158 dL_law_2818 ?_
  refine x_if_eq (tgt := 2826) C dL_law_2819 (by decide) (fun z9 => ?_) (fun z9 => ?_)
  · have h1 := h1.1 z9
    refine x_iconst (v := (0 : Int32)) C dL_law_2826 (by decide) ?_
    refine x_keep (L' := [(0, xm_w0 b), (1, xm_r x1), (2, xm_r x2), (3, xm_r x3), (4, xm_i x4), (5, xm_i r1156)]) C [1, 2, 3, 4, 5, 0] rfl ?_
    exact kp_L_law_2827 b len xs x1 x2 x3 x4 r1156 (0 : Int32) (xs ((x4 + (1 : Int32))).toNatClampNeg) x2 S1155 (kc + 1) (ks + 6) C N hSc hg hZ23 h1
  · have h1 := h1.2 z9
    refine x_iconst (v := (1 : Int32)) C dL_law_2822 (by decide) ?_
    refine x_goto (tgt := 2827) C dL_law_2823 (by decide) ?_
    refine x_keep (L' := [(0, xm_w0 b), (1, xm_r x1), (2, xm_r x2), (3, xm_r x3), (4, xm_i x4), (5, xm_i r1156)]) C [1, 2, 3, 4, 5, 0] rfl ?_
    exact kp_L_law_2827 b len xs x1 x2 x3 x4 r1156 (1 : Int32) (xs ((x4 + (1 : Int32))).toNatClampNeg) x2 S1155 (kc + 1) (ks + 6) C N hSc hg hZ23 h1
def wp_L_law_2779 (b len : Nat) (xs : Nat → Int32) (x1 : Option Nat) (x2 : Option Nat) (x3 : Option Nat) (x4 : Int32) (S : xm_S) (kc ks : Nat) (g : Int32 → xm_S → Prop) (Z23 : Option Nat → Option Nat → Option Nat → Int32 → xm_S → Nat → Nat → Prop) : Prop :=
  vp_in (x4 + (1 : Int32)) len ∧ vp_in (x4 + (nI 2)) len ∧ ((xs ((x4 + (nI 2))).toNatClampNeg) = 0 → wp_L_law_2800 b len xs x1 x2 x3 x4 (0 : Int32) (xs ((x4 + (1 : Int32))).toNatClampNeg) x1 S kc ks g Z23) ∧ (¬ (xs ((x4 + (nI 2))).toNatClampNeg) = 0 → wp_L_law_2800 b len xs x1 x2 x3 x4 (1 : Int32) (xs ((x4 + (1 : Int32))).toNatClampNeg) x1 S kc ks g Z23)
set_option maxRecDepth 100000 in
set_option maxHeartbeats 4000000 in
theorem kp_L_law_2779 {K : xm_K} (b len : Nat) (xs : Nat → Int32) (x1 : Option Nat) (x2 : Option Nat) (x3 : Option Nat) (x4 : Int32) (S : xm_S) (kc ks : Nat) {g : Int32 → xm_S → Prop} {Z23 : Option Nat → Option Nat → Option Nat → Int32 → xm_S → Nat → Nat → Prop} (C : xm_Cx K cL_law RL 7 (some .boolean) rm_L_law) (N : xm_Nx K) (hSc : xm_Sc K b len xs) (hg : ∀ v S, g v S → xm_q K (some (xm_i v)) S) (hZ23 : ∀ x1 x2 x3 x4 S kc ks, Z23 x1 x2 x3 x4 S kc ks → xm_W K kc ks 23 [(0, xm_w0 b), (1, xm_r x1), (2, xm_r x2), (3, xm_r x3), (4, xm_i x4)] [] S) (h1 : wp_L_law_2779 b len xs x1 x2 x3 x4 S kc ks g Z23) : xm_W K kc ks 2779 [(0, xm_w0 b), (1, xm_r x1), (2, xm_r x2), (3, xm_r x3), (4, xm_i x4)] [] S := by
  unfold wp_L_law_2779 at h1
  refine x_aload_n C 1 dL_law_2779 rfl rfl ?_
  refine x_aload_n_w C 0 dL_law_2780 rfl rfl ?_
  refine x_iload C 4 dL_law_2781 rfl ?_
  refine x_iconst (v := (1 : Int32)) C dL_law_2783 (by decide) ?_
  refine x_iadd C dL_law_2784 ?_
  obtain ⟨hi1159, h1⟩ := h1
  refine x_sald C hSc hi1159 dL_law_2785 ?_
  refine x_aload_n_w C 0 dL_law_2786 rfl rfl ?_
  refine x_iload C 4 dL_law_2787 rfl ?_
  refine x_iconst (v := (nI 2)) C dL_law_2789 (by decide) ?_
  refine x_iadd C dL_law_2790 ?_
  obtain ⟨hi1160, h1⟩ := h1
  refine x_sald C hSc hi1160 dL_law_2791 ?_
  refine x_if_eq (tgt := 2799) C dL_law_2792 (by decide) (fun z9 => ?_) (fun z9 => ?_)
  · have h1 := h1.1 z9
    refine x_iconst (v := (0 : Int32)) C dL_law_2799 (by decide) ?_
    exact kp_L_law_2800 b len xs x1 x2 x3 x4 (0 : Int32) (xs ((x4 + (1 : Int32))).toNatClampNeg) x1 S kc ks C N hSc hg hZ23 h1
  · have h1 := h1.2 z9
    refine x_iconst (v := (1 : Int32)) C dL_law_2795 (by decide) ?_
    refine x_goto (tgt := 2800) C dL_law_2796 (by decide) ?_
    exact kp_L_law_2800 b len xs x1 x2 x3 x4 (1 : Int32) (xs ((x4 + (1 : Int32))).toNatClampNeg) x1 S kc ks C N hSc hg hZ23 h1
def wp_L_law_2923 (b len : Nat) (xs : Nat → Int32) (x1 : Option Nat) (x2 : Option Nat) (x3 : Option Nat) (x4 : Int32) (S : xm_S) (kc ks : Nat) (g : Int32 → xm_S → Prop) (Z23 : Option Nat → Option Nat → Option Nat → Int32 → xm_S → Nat → Nat → Prop) : Prop :=
  wp_L_law_2965 b len xs x1 x2 x3 x4 S kc ks g Z23
set_option maxRecDepth 100000 in
set_option maxHeartbeats 4000000 in
theorem kp_L_law_2923 {K : xm_K} (b len : Nat) (xs : Nat → Int32) (x1 : Option Nat) (x2 : Option Nat) (x3 : Option Nat) (x4 : Int32) (S : xm_S) (kc ks : Nat) {g : Int32 → xm_S → Prop} {Z23 : Option Nat → Option Nat → Option Nat → Int32 → xm_S → Nat → Nat → Prop} (C : xm_Cx K cL_law RL 7 (some .boolean) rm_L_law) (N : xm_Nx K) (hSc : xm_Sc K b len xs) (hg : ∀ v S, g v S → xm_q K (some (xm_i v)) S) (hZ23 : ∀ x1 x2 x3 x4 S kc ks, Z23 x1 x2 x3 x4 S kc ks → xm_W K kc ks 23 [(0, xm_w0 b), (1, xm_r x1), (2, xm_r x2), (3, xm_r x3), (4, xm_i x4)] [] S) (h1 : wp_L_law_2923 b len xs x1 x2 x3 x4 S kc ks g Z23) : xm_W K kc ks 2923 [(0, xm_w0 b), (1, xm_r x1), (2, xm_r x2), (3, xm_r x3), (4, xm_i x4)] [] S := by
  unfold wp_L_law_2923 at h1
  refine x_goto (tgt := 2965) C dL_law_2923 (by decide) ?_
  exact kp_L_law_2965 b len xs x1 x2 x3 x4 S kc ks C N hSc hg hZ23 h1
def wp_L_law_2870 (b len : Nat) (xs : Nat → Int32) (x1 : Option Nat) (x2 : Option Nat) (x3 : Option Nat) (x4 : Int32) (S : xm_S) (kc ks : Nat) (g : Int32 → xm_S → Prop) (Z23 : Option Nat → Option Nat → Option Nat → Int32 → xm_S → Nat → Nat → Prop) : Prop :=
  vp_in (x4 + (1 : Int32)) len ∧ kc + 1 ≤ 601024 ∧ ks + 6 ≤ 7293034 ∧ wp_L_rollback x1 (xs ((x4 + (1 : Int32))).toNatClampNeg) x3 S (fun r1165 S1164 => vp_in (x4 + (1 : Int32)) len ∧ ∃ n1167, x2 = some n1167 ∧ st_t S1164 n1167 = some (12, 0) ∧ (kc + 1) ≤ 601024 ∧ (ks + 6) ≤ 7293034 ∧ wp_X12_rollback n1167 (xs ((x4 + (1 : Int32))).toNatClampNeg) S1164 (fun r1173 S1172 => ∃ n1174, x2 = some n1174 ∧ st_t S1172 n1174 = some (12, 0) ∧ (kc + 1) ≤ 601024 ∧ (ks + 6) ≤ 7293034 ∧ wp_X12_thrown n1174 S1172 (fun r1180 S1179 => (r1180 = r1165 → (¬ r1165 = 0 → wp_L_law_2923 b len xs x1 x2 x3 x4 S1179 (kc + 1) (ks + 6) g Z23) ∧ (r1165 = 0 → ∃ n1181, x3 = some n1181 ∧ ∃ z1184, st_t S1179 n1181 = some (103, z1184) ∧ vp_in (0 : Int32) z1184 ∧ ((lg_cmp (st_l S1179 n1181 ((0 : Int32)).toNatClampNeg) ((r1173).toInt64)) = 0 → wp_L_law_2923 b len xs x1 x2 x3 x4 S1179 (kc + 1) (ks + 6) g Z23) ∧ (¬ (lg_cmp (st_l S1179 n1181 ((0 : Int32)).toNatClampNeg) ((r1173).toInt64)) = 0 → (kc + 1) ≤ 601024 ∧ (ks + 6) ≤ 7293034 ∧ g (0 : Int32) S1179))) ∧ (¬ r1180 = r1165 → (kc + 1) ≤ 601024 ∧ (ks + 6) ≤ 7293034 ∧ g (0 : Int32) S1179))))
set_option maxRecDepth 100000 in
set_option maxHeartbeats 4000000 in
theorem kp_L_law_2870 {K : xm_K} (b len : Nat) (xs : Nat → Int32) (x1 : Option Nat) (x2 : Option Nat) (x3 : Option Nat) (x4 : Int32) (S : xm_S) (kc ks : Nat) {g : Int32 → xm_S → Prop} {Z23 : Option Nat → Option Nat → Option Nat → Int32 → xm_S → Nat → Nat → Prop} (C : xm_Cx K cL_law RL 7 (some .boolean) rm_L_law) (N : xm_Nx K) (hSc : xm_Sc K b len xs) (hg : ∀ v S, g v S → xm_q K (some (xm_i v)) S) (hZ23 : ∀ x1 x2 x3 x4 S kc ks, Z23 x1 x2 x3 x4 S kc ks → xm_W K kc ks 23 [(0, xm_w0 b), (1, xm_r x1), (2, xm_r x2), (3, xm_r x3), (4, xm_i x4)] [] S) (h1 : wp_L_law_2870 b len xs x1 x2 x3 x4 S kc ks g Z23) : xm_W K kc ks 2870 [(0, xm_w0 b), (1, xm_r x1), (2, xm_r x2), (3, xm_r x3), (4, xm_i x4)] [] S := by
  unfold wp_L_law_2870 at h1
  refine x_aload_n C 1 dL_law_2870 rfl rfl ?_
  refine x_aload_n_w C 0 dL_law_2871 rfl rfl ?_
  refine x_iload C 4 dL_law_2872 rfl ?_
  refine x_iconst (v := (1 : Int32)) C dL_law_2874 (by decide) ?_
  refine x_iadd C dL_law_2875 ?_
  obtain ⟨hi1161, h1⟩ := h1
  refine x_sald C hSc hi1161 dL_law_2876 ?_
  refine x_aload_n C 3 dL_law_2877 rfl rfl ?_
  obtain ⟨hc1162, hc1163, h1⟩ := h1
  refine x_callSH (rm' := rm_L_rollback) (hh := [(0, 9, 12, 21)]) C (kp_L_rollback_met h1) gw_1214 gw_932 gw_1215 ⟨by decide, by decide, show Option.map _ (parseMethodDescriptor yL_rollback.desc) = some 3 from by decide +kernel⟩ gw_1216 rfl (Nat.le_of_ble_eq_true rfl) ⟨Nat.le_of_ble_eq_true rfl, Nat.le_of_ble_eq_true rfl, hc1162, hc1163⟩ dL_law_2878 xm_kx (xm_ki (fun r1165 S1164 h1 => ?_))
  refine x_istore (L' := [(5, xm_i r1165), (0, xm_w0 b), (1, xm_r x1), (2, xm_r x2), (3, xm_r x3), (4, xm_i x4)]) C dL_law_2881 (by decide) rfl ?_
  refine x_aload_n C 3 dL_law_2883 rfl rfl ?_
  refine x_aload_n_w C 1 dL_law_2884 rfl rfl ?_
  refine x_iload C 5 dL_law_2885 rfl ?_
  refine x_iconst (v := (1 : Int32)) C dL_law_2887 (by decide) ?_
  refine x_iadd C dL_law_2888 ?_
  obtain ⟨hi1166, h1⟩ := h1
  refine x_sald C hSc hi1166 dL_law_2889 ?_
  obtain ⟨n1167, hr1168, h1⟩ := h1
  obtain ⟨ht1169, h1⟩ := h1
  obtain ⟨hc1170, hc1171, h1⟩ := h1
  refine x_callV (rm' := rm_X12_rollback) (n := n1167) C (kp_X12_rollback_met h1) lk_215 gw_1219 gw_1220 xv_12 rfl hr1168 ht1169 rfl (Nat.le_of_ble_eq_true rfl) ⟨Nat.le_of_ble_eq_true rfl, Nat.le_of_ble_eq_true rfl, hc1170, hc1171⟩ dL_law_2890 xm_kx (xm_ki (fun r1173 S1172 h1 => ?_))
  refine x_istore (L' := [(6, xm_i r1173), (5, xm_i r1165), (0, xm_w0 b), (1, xm_r x1), (2, xm_r x2), (3, xm_r x3), (4, xm_i x4)]) C dL_law_2893 (by decide) rfl ?_
  refine x_aload_n C 4 dL_law_2895 rfl rfl ?_
  obtain ⟨n1174, hr1175, h1⟩ := h1
  obtain ⟨ht1176, h1⟩ := h1
  obtain ⟨hc1177, hc1178, h1⟩ := h1
  refine x_callV (rm' := rm_X12_thrown) (n := n1174) C (kp_X12_thrown_met h1) lk_171 gw_941 gw_942 xv_12 rfl hr1175 ht1176 rfl (Nat.le_of_ble_eq_true rfl) ⟨Nat.le_of_ble_eq_true rfl, Nat.le_of_ble_eq_true rfl, hc1177, hc1178⟩ dL_law_2896 xm_kx (xm_ki (fun r1180 S1179 h1 => ?_))
  refine x_iload C 1 dL_law_2899 rfl ?_
  refine x_icmp_eq (tgt := 2906) C dL_law_2901 (by decide) (fun z9 => ?_) (fun z9 => ?_)
  · have h1 := h1.1 z9
    refine x_iload C 1 dL_law_2906 rfl ?_
    refine x_if_ne (tgt := 2923) C dL_law_2908 (by decide) (fun z9 => ?_) (fun z9 => ?_)
    · have h1 := h1.1 z9
      refine x_keep (L' := [(0, xm_w0 b), (1, xm_r x1), (2, xm_r x2), (3, xm_r x3), (4, xm_i x4)]) C [2, 3, 4, 5, 6] rfl ?_
      exact kp_L_law_2923 b len xs x1 x2 x3 x4 S1179 (kc + 1) (ks + 6) C N hSc hg hZ23 h1
    · have h1 := h1.2 z9
      refine x_aload_n C 5 dL_law_2911 rfl rfl ?_
      refine x_iconst (v := (0 : Int32)) C dL_law_2912 (by decide) ?_
      obtain ⟨n1181, hr1182, h1⟩ := h1
      obtain ⟨z1184, ht1183, h1⟩ := h1
      obtain ⟨hi1185, h1⟩ := h1
      refine x_lald (n := n1181) C hr1182 ht1183 hi1185 dL_law_2913 ?_
      refine x_iload C 0 dL_law_2914 rfl ?_
      refine x_i2l C dL_law_2916 ?_
      refine x_lcmp C dL_law_2917 ?_
      refine x_if_eq (tgt := 2923) C dL_law_2918 (by decide) (fun z9 => ?_) (fun z9 => ?_)
      · have h1 := h1.1 z9
        refine x_keep (L' := [(0, xm_w0 b), (1, xm_r x1), (2, xm_r x2), (3, xm_r x3), (4, xm_i x4)]) C [2, 3, 4, 5, 6] rfl ?_
        exact kp_L_law_2923 b len xs x1 x2 x3 x4 S1179 (kc + 1) (ks + 6) C N hSc hg hZ23 h1
      · have h1 := h1.2 z9
        refine x_iconst (v := (0 : Int32)) C dL_law_2921 (by decide) ?_
        obtain ⟨hc1186, hc1187, h1⟩ := h1
        exact x_zret C hc1186 hc1187 rfl (by decide) dL_law_2922 (hg _ _ h1)
  · have h1 := h1.2 z9
    refine x_iconst (v := (0 : Int32)) C dL_law_2904 (by decide) ?_
    obtain ⟨hc1188, hc1189, h1⟩ := h1
    exact x_zret C hc1188 hc1189 rfl (by decide) dL_law_2905 (hg _ _ h1)
def wp_L_law_2926 (b len : Nat) (xs : Nat → Int32) (x1 : Option Nat) (x2 : Option Nat) (x3 : Option Nat) (x4 : Int32) (S : xm_S) (kc ks : Nat) (g : Int32 → xm_S → Prop) (Z23 : Option Nat → Option Nat → Option Nat → Int32 → xm_S → Nat → Nat → Prop) : Prop :=
  ∃ n1190, x1 = some n1190 ∧ st_t S n1190 = some (11, 0) ∧ kc ≤ 601024 ∧ ks ≤ 7293034 ∧ wp_X11_collect n1190 S (fun r1196 S1195 => ∃ n1197, x2 = some n1197 ∧ st_t S1195 n1197 = some (12, 0) ∧ kc ≤ 601024 ∧ ks ≤ 7293034 ∧ wp_X12_collect n1197 S1195 (fun r1203 S1202 => (r1196 = r1203 → wp_L_law_2965 b len xs x1 x2 x3 x4 S1202 kc ks g Z23) ∧ (¬ r1196 = r1203 → kc ≤ 601024 ∧ ks ≤ 7293034 ∧ g (0 : Int32) S1202)))
set_option maxRecDepth 100000 in
set_option maxHeartbeats 4000000 in
theorem kp_L_law_2926 {K : xm_K} (b len : Nat) (xs : Nat → Int32) (x1 : Option Nat) (x2 : Option Nat) (x3 : Option Nat) (x4 : Int32) (S : xm_S) (kc ks : Nat) {g : Int32 → xm_S → Prop} {Z23 : Option Nat → Option Nat → Option Nat → Int32 → xm_S → Nat → Nat → Prop} (C : xm_Cx K cL_law RL 7 (some .boolean) rm_L_law) (N : xm_Nx K) (hSc : xm_Sc K b len xs) (hg : ∀ v S, g v S → xm_q K (some (xm_i v)) S) (hZ23 : ∀ x1 x2 x3 x4 S kc ks, Z23 x1 x2 x3 x4 S kc ks → xm_W K kc ks 23 [(0, xm_w0 b), (1, xm_r x1), (2, xm_r x2), (3, xm_r x3), (4, xm_i x4)] [] S) (h1 : wp_L_law_2926 b len xs x1 x2 x3 x4 S kc ks g Z23) : xm_W K kc ks 2926 [(0, xm_w0 b), (1, xm_r x1), (2, xm_r x2), (3, xm_r x3), (4, xm_i x4)] [] S := by
  unfold wp_L_law_2926 at h1
  refine x_aload_n C 1 dL_law_2926 rfl rfl ?_
  obtain ⟨n1190, hr1191, h1⟩ := h1
  obtain ⟨ht1192, h1⟩ := h1
  obtain ⟨hc1193, hc1194, h1⟩ := h1
  refine x_callV (rm' := rm_X11_collect) (n := n1190) C (kp_X11_collect_met h1) lk_216 gw_1223 gw_1224 xv_11 rfl hr1191 ht1192 rfl (Nat.le_of_ble_eq_true rfl) ⟨Nat.le_of_ble_eq_true rfl, Nat.le_of_ble_eq_true rfl, hc1193, hc1194⟩ dL_law_2927 xm_kx (xm_ki (fun r1196 S1195 h1 => ?_))
  refine x_aload_n C 2 dL_law_2930 rfl rfl ?_
  obtain ⟨n1197, hr1198, h1⟩ := h1
  obtain ⟨ht1199, h1⟩ := h1
  obtain ⟨hc1200, hc1201, h1⟩ := h1
  refine x_callV (rm' := rm_X12_collect) (n := n1197) C (kp_X12_collect_met h1) lk_217 gw_1227 gw_1228 xv_12 rfl hr1198 ht1199 rfl (Nat.le_of_ble_eq_true rfl) ⟨Nat.le_of_ble_eq_true rfl, Nat.le_of_ble_eq_true rfl, hc1200, hc1201⟩ dL_law_2931 xm_kx (xm_ki (fun r1203 S1202 h1 => ?_))
  refine x_icmp_eq (tgt := 2965) C dL_law_2934 (by decide) (fun z9 => ?_) (fun z9 => ?_)
  · have h1 := h1.1 z9
    exact kp_L_law_2965 b len xs x1 x2 x3 x4 S1202 kc ks C N hSc hg hZ23 h1
  · have h1 := h1.2 z9
    refine x_iconst (v := (0 : Int32)) C dL_law_2937 (by decide) ?_
    obtain ⟨hc1204, hc1205, h1⟩ := h1
    exact x_zret C hc1204 hc1205 rfl (by decide) dL_law_2938 (hg _ _ h1)
def wp_L_law_2939 (b len : Nat) (xs : Nat → Int32) (x1 : Option Nat) (x2 : Option Nat) (x3 : Option Nat) (x4 : Int32) (S : xm_S) (kc ks : Nat) (g : Int32 → xm_S → Prop) (Z23 : Option Nat → Option Nat → Option Nat → Int32 → xm_S → Nat → Nat → Prop) : Prop :=
  ∃ n1206, x1 = some n1206 ∧ st_t S n1206 = some (11, 0) ∧ kc ≤ 601024 ∧ ks ≤ 7293034 ∧ wp_X11_generation n1206 S (fun r1212 S1211 => ∃ n1213, x2 = some n1213 ∧ st_t S1211 n1213 = some (12, 0) ∧ kc ≤ 601024 ∧ ks ≤ 7293034 ∧ wp_X12_generation n1213 S1211 (fun r1219 S1218 => (r1212 = r1219 → wp_L_law_2965 b len xs x1 x2 x3 x4 S1218 kc ks g Z23) ∧ (¬ r1212 = r1219 → kc ≤ 601024 ∧ ks ≤ 7293034 ∧ g (0 : Int32) S1218)))
set_option maxRecDepth 100000 in
set_option maxHeartbeats 4000000 in
theorem kp_L_law_2939 {K : xm_K} (b len : Nat) (xs : Nat → Int32) (x1 : Option Nat) (x2 : Option Nat) (x3 : Option Nat) (x4 : Int32) (S : xm_S) (kc ks : Nat) {g : Int32 → xm_S → Prop} {Z23 : Option Nat → Option Nat → Option Nat → Int32 → xm_S → Nat → Nat → Prop} (C : xm_Cx K cL_law RL 7 (some .boolean) rm_L_law) (N : xm_Nx K) (hSc : xm_Sc K b len xs) (hg : ∀ v S, g v S → xm_q K (some (xm_i v)) S) (hZ23 : ∀ x1 x2 x3 x4 S kc ks, Z23 x1 x2 x3 x4 S kc ks → xm_W K kc ks 23 [(0, xm_w0 b), (1, xm_r x1), (2, xm_r x2), (3, xm_r x3), (4, xm_i x4)] [] S) (h1 : wp_L_law_2939 b len xs x1 x2 x3 x4 S kc ks g Z23) : xm_W K kc ks 2939 [(0, xm_w0 b), (1, xm_r x1), (2, xm_r x2), (3, xm_r x3), (4, xm_i x4)] [] S := by
  unfold wp_L_law_2939 at h1
  refine x_aload_n C 1 dL_law_2939 rfl rfl ?_
  obtain ⟨n1206, hr1207, h1⟩ := h1
  obtain ⟨ht1208, h1⟩ := h1
  obtain ⟨hc1209, hc1210, h1⟩ := h1
  refine x_callV (rm' := rm_X11_generation) (n := n1206) C (kp_X11_generation_met h1) lk_218 gw_1231 gw_1232 xv_11 rfl hr1207 ht1208 rfl (Nat.le_of_ble_eq_true rfl) ⟨Nat.le_of_ble_eq_true rfl, Nat.le_of_ble_eq_true rfl, hc1209, hc1210⟩ dL_law_2940 xm_kx (xm_ki (fun r1212 S1211 h1 => ?_))
  refine x_aload_n C 2 dL_law_2943 rfl rfl ?_
  obtain ⟨n1213, hr1214, h1⟩ := h1
  obtain ⟨ht1215, h1⟩ := h1
  obtain ⟨hc1216, hc1217, h1⟩ := h1
  refine x_callV (rm' := rm_X12_generation) (n := n1213) C (kp_X12_generation_met h1) lk_219 gw_1235 gw_1236 xv_12 rfl hr1214 ht1215 rfl (Nat.le_of_ble_eq_true rfl) ⟨Nat.le_of_ble_eq_true rfl, Nat.le_of_ble_eq_true rfl, hc1216, hc1217⟩ dL_law_2944 xm_kx (xm_ki (fun r1219 S1218 h1 => ?_))
  refine x_icmp_eq (tgt := 2965) C dL_law_2947 (by decide) (fun z9 => ?_) (fun z9 => ?_)
  · have h1 := h1.1 z9
    exact kp_L_law_2965 b len xs x1 x2 x3 x4 S1218 kc ks C N hSc hg hZ23 h1
  · have h1 := h1.2 z9
    refine x_iconst (v := (0 : Int32)) C dL_law_2950 (by decide) ?_
    obtain ⟨hc1220, hc1221, h1⟩ := h1
    exact x_zret C hc1220 hc1221 rfl (by decide) dL_law_2951 (hg _ _ h1)
def wp_L_law_2952 (b len : Nat) (xs : Nat → Int32) (x1 : Option Nat) (x2 : Option Nat) (x3 : Option Nat) (x4 : Int32) (S : xm_S) (kc ks : Nat) (g : Int32 → xm_S → Prop) (Z23 : Option Nat → Option Nat → Option Nat → Int32 → xm_S → Nat → Nat → Prop) : Prop :=
  ∃ n1222, x1 = some n1222 ∧ st_t S n1222 = some (11, 0) ∧ kc ≤ 601024 ∧ ks ≤ 7293034 ∧ wp_X11_generations n1222 S (fun r1228 S1227 => ∃ n1229, x2 = some n1229 ∧ st_t S1227 n1229 = some (12, 0) ∧ kc ≤ 601024 ∧ ks ≤ 7293034 ∧ wp_X12_generations n1229 S1227 (fun r1235 S1234 => (r1228 = r1235 → wp_L_law_2965 b len xs x1 x2 x3 x4 S1234 kc ks g Z23) ∧ (¬ r1228 = r1235 → kc ≤ 601024 ∧ ks ≤ 7293034 ∧ g (0 : Int32) S1234)))
set_option maxRecDepth 100000 in
set_option maxHeartbeats 4000000 in
theorem kp_L_law_2952 {K : xm_K} (b len : Nat) (xs : Nat → Int32) (x1 : Option Nat) (x2 : Option Nat) (x3 : Option Nat) (x4 : Int32) (S : xm_S) (kc ks : Nat) {g : Int32 → xm_S → Prop} {Z23 : Option Nat → Option Nat → Option Nat → Int32 → xm_S → Nat → Nat → Prop} (C : xm_Cx K cL_law RL 7 (some .boolean) rm_L_law) (N : xm_Nx K) (hSc : xm_Sc K b len xs) (hg : ∀ v S, g v S → xm_q K (some (xm_i v)) S) (hZ23 : ∀ x1 x2 x3 x4 S kc ks, Z23 x1 x2 x3 x4 S kc ks → xm_W K kc ks 23 [(0, xm_w0 b), (1, xm_r x1), (2, xm_r x2), (3, xm_r x3), (4, xm_i x4)] [] S) (h1 : wp_L_law_2952 b len xs x1 x2 x3 x4 S kc ks g Z23) : xm_W K kc ks 2952 [(0, xm_w0 b), (1, xm_r x1), (2, xm_r x2), (3, xm_r x3), (4, xm_i x4)] [] S := by
  unfold wp_L_law_2952 at h1
  refine x_aload_n C 1 dL_law_2952 rfl rfl ?_
  obtain ⟨n1222, hr1223, h1⟩ := h1
  obtain ⟨ht1224, h1⟩ := h1
  obtain ⟨hc1225, hc1226, h1⟩ := h1
  refine x_callV (rm' := rm_X11_generations) (n := n1222) C (kp_X11_generations_met h1) lk_220 gw_1239 gw_1240 xv_11 rfl hr1223 ht1224 rfl (Nat.le_of_ble_eq_true rfl) ⟨Nat.le_of_ble_eq_true rfl, Nat.le_of_ble_eq_true rfl, hc1225, hc1226⟩ dL_law_2953 xm_kx (xm_ki (fun r1228 S1227 h1 => ?_))
  refine x_aload_n C 2 dL_law_2956 rfl rfl ?_
  obtain ⟨n1229, hr1230, h1⟩ := h1
  obtain ⟨ht1231, h1⟩ := h1
  obtain ⟨hc1232, hc1233, h1⟩ := h1
  refine x_callV (rm' := rm_X12_generations) (n := n1229) C (kp_X12_generations_met h1) lk_221 gw_1243 gw_1244 xv_12 rfl hr1230 ht1231 rfl (Nat.le_of_ble_eq_true rfl) ⟨Nat.le_of_ble_eq_true rfl, Nat.le_of_ble_eq_true rfl, hc1232, hc1233⟩ dL_law_2957 xm_kx (xm_ki (fun r1235 S1234 h1 => ?_))
  refine x_icmp_eq (tgt := 2965) C dL_law_2960 (by decide) (fun z9 => ?_) (fun z9 => ?_)
  · have h1 := h1.1 z9
    exact kp_L_law_2965 b len xs x1 x2 x3 x4 S1234 kc ks C N hSc hg hZ23 h1
  · have h1 := h1.2 z9
    refine x_iconst (v := (0 : Int32)) C dL_law_2963 (by decide) ?_
    obtain ⟨hc1236, hc1237, h1⟩ := h1
    exact x_zret C hc1236 hc1237 rfl (by decide) dL_law_2964 (hg _ _ h1)
def wp_L_law_23B (b len : Nat) (xs : Nat → Int32) (x1 : Option Nat) (x2 : Option Nat) (x3 : Option Nat) (x4 : Int32) (S : xm_S) (kc ks : Nat) (g : Int32 → xm_S → Prop) (Z23 : Option Nat → Option Nat → Option Nat → Int32 → xm_S → Nat → Nat → Prop) : Prop :=
  (((nI len) - (nI 7)) < x4 → kc ≤ 601024 ∧ ks ≤ 7293034 ∧ g (1 : Int32) S) ∧ (¬ ((nI len) - (nI 7)) < x4 → vp_in x4 len ∧ 0 ≤ (((xs (x4).toNatClampNeg) &&& (nI 63))).toInt ∧ (((xs (x4).toNatClampNeg) &&& (nI 63)) = nI 0 → wp_L_law_228 b len xs x1 x2 x3 x4 S kc ks g Z23) ∧ (((xs (x4).toNatClampNeg) &&& (nI 63)) = nI 1 → wp_L_law_328 b len xs x1 x2 x3 x4 S kc ks g Z23) ∧ (((xs (x4).toNatClampNeg) &&& (nI 63)) = nI 2 → wp_L_law_341 b len xs x1 x2 x3 x4 S kc ks g Z23) ∧ (((xs (x4).toNatClampNeg) &&& (nI 63)) = nI 3 → wp_L_law_354 b len xs x1 x2 x3 x4 S kc ks g Z23) ∧ (((xs (x4).toNatClampNeg) &&& (nI 63)) = nI 4 → wp_L_law_422 b len xs x1 x2 x3 x4 S kc ks g Z23) ∧ (((xs (x4).toNatClampNeg) &&& (nI 63)) = nI 5 → wp_L_law_526 b len xs x1 x2 x3 x4 S kc ks g Z23) ∧ (((xs (x4).toNatClampNeg) &&& (nI 63)) = nI 6 → wp_L_law_644 b len xs x1 x2 x3 x4 S kc ks g Z23) ∧ (((xs (x4).toNatClampNeg) &&& (nI 63)) = nI 7 → wp_L_law_724 b len xs x1 x2 x3 x4 S kc ks g Z23) ∧ (((xs (x4).toNatClampNeg) &&& (nI 63)) = nI 8 → wp_L_law_816 b len xs x1 x2 x3 x4 S kc ks g Z23) ∧ (((xs (x4).toNatClampNeg) &&& (nI 63)) = nI 9 → wp_L_law_919 b len xs x1 x2 x3 x4 S kc ks g Z23) ∧ (((xs (x4).toNatClampNeg) &&& (nI 63)) = nI 10 → wp_L_law_999 b len xs x1 x2 x3 x4 S kc ks g Z23) ∧ (((xs (x4).toNatClampNeg) &&& (nI 63)) = nI 11 → wp_L_law_1055 b len xs x1 x2 x3 x4 S kc ks g Z23) ∧ (((xs (x4).toNatClampNeg) &&& (nI 63)) = nI 12 → wp_L_law_1123 b len xs x1 x2 x3 x4 S kc ks g Z23) ∧ (((xs (x4).toNatClampNeg) &&& (nI 63)) = nI 13 → wp_L_law_1136 b len xs x1 x2 x3 x4 S kc ks g Z23) ∧ (((xs (x4).toNatClampNeg) &&& (nI 63)) = nI 14 → wp_L_law_1192 b len xs x1 x2 x3 x4 S kc ks g Z23) ∧ (((xs (x4).toNatClampNeg) &&& (nI 63)) = nI 15 → wp_L_law_1260 b len xs x1 x2 x3 x4 S kc ks g Z23) ∧ (((xs (x4).toNatClampNeg) &&& (nI 63)) = nI 16 → wp_L_law_1328 b len xs x1 x2 x3 x4 S kc ks g Z23) ∧ (((xs (x4).toNatClampNeg) &&& (nI 63)) = nI 17 → wp_L_law_1384 b len xs x1 x2 x3 x4 S kc ks g Z23) ∧ (((xs (x4).toNatClampNeg) &&& (nI 63)) = nI 18 → wp_L_law_1440 b len xs x1 x2 x3 x4 S kc ks g Z23) ∧ (((xs (x4).toNatClampNeg) &&& (nI 63)) = nI 19 → wp_L_law_1496 b len xs x1 x2 x3 x4 S kc ks g Z23) ∧ (((xs (x4).toNatClampNeg) &&& (nI 63)) = nI 20 → wp_L_law_1564 b len xs x1 x2 x3 x4 S kc ks g Z23) ∧ (((xs (x4).toNatClampNeg) &&& (nI 63)) = nI 21 → wp_L_law_1627 b len xs x1 x2 x3 x4 S kc ks g Z23) ∧ (((xs (x4).toNatClampNeg) &&& (nI 63)) = nI 22 → wp_L_law_1695 b len xs x1 x2 x3 x4 S kc ks g Z23) ∧ (((xs (x4).toNatClampNeg) &&& (nI 63)) = nI 23 → wp_L_law_1763 b len xs x1 x2 x3 x4 S kc ks g Z23) ∧ (((xs (x4).toNatClampNeg) &&& (nI 63)) = nI 24 → wp_L_law_1819 b len xs x1 x2 x3 x4 S kc ks g Z23) ∧ (((xs (x4).toNatClampNeg) &&& (nI 63)) = nI 25 → wp_L_law_1906 b len xs x1 x2 x3 x4 S kc ks g Z23) ∧ (((xs (x4).toNatClampNeg) &&& (nI 63)) = nI 26 → wp_L_law_1986 b len xs x1 x2 x3 x4 S kc ks g Z23) ∧ (((xs (x4).toNatClampNeg) &&& (nI 63)) = nI 27 → wp_L_law_2078 b len xs x1 x2 x3 x4 S kc ks g Z23) ∧ (((xs (x4).toNatClampNeg) &&& (nI 63)) = nI 28 → wp_L_law_2169 b len xs x1 x2 x3 x4 S kc ks g Z23) ∧ (((xs (x4).toNatClampNeg) &&& (nI 63)) = nI 29 → wp_L_law_2237 b len xs x1 x2 x3 x4 S kc ks g Z23) ∧ (((xs (x4).toNatClampNeg) &&& (nI 63)) = nI 30 → wp_L_law_2293 b len xs x1 x2 x3 x4 S kc ks g Z23) ∧ (((xs (x4).toNatClampNeg) &&& (nI 63)) = nI 31 → wp_L_law_2413 b len xs x1 x2 x3 x4 S kc ks g Z23) ∧ (((xs (x4).toNatClampNeg) &&& (nI 63)) = nI 32 → wp_L_law_2493 b len xs x1 x2 x3 x4 S kc ks g Z23) ∧ (((xs (x4).toNatClampNeg) &&& (nI 63)) = nI 33 → wp_L_law_2561 b len xs x1 x2 x3 x4 S kc ks g Z23) ∧ (((xs (x4).toNatClampNeg) &&& (nI 63)) = nI 34 → wp_L_law_2574 b len xs x1 x2 x3 x4 S kc ks g Z23) ∧ (((xs (x4).toNatClampNeg) &&& (nI 63)) = nI 35 → wp_L_law_2642 b len xs x1 x2 x3 x4 S kc ks g Z23) ∧ (((xs (x4).toNatClampNeg) &&& (nI 63)) = nI 36 → wp_L_law_2710 b len xs x1 x2 x3 x4 S kc ks g Z23) ∧ (((xs (x4).toNatClampNeg) &&& (nI 63)) = nI 37 → wp_L_law_2766 b len xs x1 x2 x3 x4 S kc ks g Z23) ∧ (((xs (x4).toNatClampNeg) &&& (nI 63)) = nI 38 → wp_L_law_2779 b len xs x1 x2 x3 x4 S kc ks g Z23) ∧ (((xs (x4).toNatClampNeg) &&& (nI 63)) = nI 39 → wp_L_law_2870 b len xs x1 x2 x3 x4 S kc ks g Z23) ∧ (((xs (x4).toNatClampNeg) &&& (nI 63)) = nI 40 → wp_L_law_2926 b len xs x1 x2 x3 x4 S kc ks g Z23) ∧ (((xs (x4).toNatClampNeg) &&& (nI 63)) = nI 41 → wp_L_law_2939 b len xs x1 x2 x3 x4 S kc ks g Z23) ∧ (((xs (x4).toNatClampNeg) &&& (nI 63)) = nI 42 → wp_L_law_2952 b len xs x1 x2 x3 x4 S kc ks g Z23) ∧ ((42 : Int) < (((xs (x4).toNatClampNeg) &&& (nI 63))).toInt → wp_L_law_2965 b len xs x1 x2 x3 x4 S kc ks g Z23))
def wp_L_law_23 (b len : Nat) (xs : Nat → Int32) (x1 : Option Nat) (x2 : Option Nat) (x3 : Option Nat) (x4 : Int32) (S : xm_S) (kc ks : Nat) (g : Int32 → xm_S → Prop) : Prop :=
  ∀ Z23 : Option Nat → Option Nat → Option Nat → Int32 → xm_S → Nat → Nat → Prop, (∀ x1 x2 x3 x4 S kc ks, wp_L_law_23B b len xs x1 x2 x3 x4 S kc ks g Z23 → Z23 x1 x2 x3 x4 S kc ks) → Z23 x1 x2 x3 x4 S kc ks
set_option maxRecDepth 100000 in
set_option maxHeartbeats 4000000 in
theorem kp_L_law_23B {K : xm_K} (b len : Nat) (xs : Nat → Int32) (x1 : Option Nat) (x2 : Option Nat) (x3 : Option Nat) (x4 : Int32) (S : xm_S) (kc ks : Nat) {g : Int32 → xm_S → Prop} {Z23 : Option Nat → Option Nat → Option Nat → Int32 → xm_S → Nat → Nat → Prop} (C : xm_Cx K cL_law RL 7 (some .boolean) rm_L_law) (N : xm_Nx K) (hSc : xm_Sc K b len xs) (hg : ∀ v S, g v S → xm_q K (some (xm_i v)) S) (hZ23 : ∀ x1 x2 x3 x4 S kc ks, Z23 x1 x2 x3 x4 S kc ks → xm_W K kc ks 23 [(0, xm_w0 b), (1, xm_r x1), (2, xm_r x2), (3, xm_r x3), (4, xm_i x4)] [] S) (h1 : wp_L_law_23B b len xs x1 x2 x3 x4 S kc ks g Z23) : xm_W K kc ks 23 [(0, xm_w0 b), (1, xm_r x1), (2, xm_r x2), (3, xm_r x3), (4, xm_i x4)] [] S := by
  unfold wp_L_law_23B at h1
  refine x_iload C 4 dL_law_23 rfl ?_
  refine x_aload_n_w C 0 dL_law_25 rfl rfl ?_
  refine x_slen C hSc dL_law_26 ?_
  refine x_bipush (v := (nI 7)) C dL_law_27 (by decide) ?_
  refine x_isub C dL_law_29 ?_
  refine x_icmp_gt (tgt := 2971) C dL_law_30 (by decide) (fun z9 => ?_) (fun z9 => ?_)
  · have h1 := h1.1 z9
    refine x_iconst (v := (1 : Int32)) C dL_law_2971 (by decide) ?_
    obtain ⟨hc1238, hc1239, h1⟩ := h1
    exact x_zret C hc1238 hc1239 rfl (by decide) dL_law_2972 (hg _ _ h1)
  · have h1 := h1.2 z9
    refine x_aload_n_w C 0 dL_law_33 rfl rfl ?_
    refine x_iload C 4 dL_law_34 rfl ?_
    obtain ⟨hi1240, h1⟩ := h1
    refine x_sald C hSc hi1240 dL_law_36 ?_
    refine x_bipush (v := (nI 63)) C dL_law_37 (by decide) ?_
    refine x_iand C dL_law_39 ?_
    obtain ⟨h01241, h1⟩ := h1
    refine x_tswT (n := 42) (dt := 2965) (T := [228, 328, 341, 354, 422, 526, 644, 724, 816, 919, 999, 1055, 1123, 1136, 1192, 1260, 1328, 1384, 1440, 1496, 1564, 1627, 1695, 1763, 1819, 1906, 1986, 2078, 2169, 2237, 2293, 2413, 2493, 2561, 2574, 2642, 2710, 2766, 2779, 2870, 2926, 2939, 2952]) C dL_law_40 h01241 (by decide +kernel) (by decide) (by decide) (fun k9 hk9 z9 => ?_) (fun z9 => ?_)
    · match k9, hk9, z9 with
      | 0, _, z9 =>
        have h1 := h1.1 z9
        exact kp_L_law_228 b len xs x1 x2 x3 x4 S kc ks C N hSc hg hZ23 h1
      | 1, _, z9 =>
        have h1 := h1.2.1 z9
        exact kp_L_law_328 b len xs x1 x2 x3 x4 S kc ks C N hSc hg hZ23 h1
      | 2, _, z9 =>
        have h1 := h1.2.2.1 z9
        exact kp_L_law_341 b len xs x1 x2 x3 x4 S kc ks C N hSc hg hZ23 h1
      | 3, _, z9 =>
        have h1 := h1.2.2.2.1 z9
        exact kp_L_law_354 b len xs x1 x2 x3 x4 S kc ks C N hSc hg hZ23 h1
      | 4, _, z9 =>
        have h1 := h1.2.2.2.2.1 z9
        exact kp_L_law_422 b len xs x1 x2 x3 x4 S kc ks C N hSc hg hZ23 h1
      | 5, _, z9 =>
        have h1 := h1.2.2.2.2.2.1 z9
        exact kp_L_law_526 b len xs x1 x2 x3 x4 S kc ks C N hSc hg hZ23 h1
      | 6, _, z9 =>
        have h1 := h1.2.2.2.2.2.2.1 z9
        exact kp_L_law_644 b len xs x1 x2 x3 x4 S kc ks C N hSc hg hZ23 h1
      | 7, _, z9 =>
        have h1 := h1.2.2.2.2.2.2.2.1 z9
        exact kp_L_law_724 b len xs x1 x2 x3 x4 S kc ks C N hSc hg hZ23 h1
      | 8, _, z9 =>
        have h1 := h1.2.2.2.2.2.2.2.2.1 z9
        exact kp_L_law_816 b len xs x1 x2 x3 x4 S kc ks C N hSc hg hZ23 h1
      | 9, _, z9 =>
        have h1 := h1.2.2.2.2.2.2.2.2.2.1 z9
        exact kp_L_law_919 b len xs x1 x2 x3 x4 S kc ks C N hSc hg hZ23 h1
      | 10, _, z9 =>
        have h1 := h1.2.2.2.2.2.2.2.2.2.2.1 z9
        exact kp_L_law_999 b len xs x1 x2 x3 x4 S kc ks C N hSc hg hZ23 h1
      | 11, _, z9 =>
        have h1 := h1.2.2.2.2.2.2.2.2.2.2.2.1 z9
        exact kp_L_law_1055 b len xs x1 x2 x3 x4 S kc ks C N hSc hg hZ23 h1
      | 12, _, z9 =>
        have h1 := h1.2.2.2.2.2.2.2.2.2.2.2.2.1 z9
        exact kp_L_law_1123 b len xs x1 x2 x3 x4 S kc ks C N hSc hg hZ23 h1
      | 13, _, z9 =>
        have h1 := h1.2.2.2.2.2.2.2.2.2.2.2.2.2.1 z9
        exact kp_L_law_1136 b len xs x1 x2 x3 x4 S kc ks C N hSc hg hZ23 h1
      | 14, _, z9 =>
        have h1 := h1.2.2.2.2.2.2.2.2.2.2.2.2.2.2.1 z9
        exact kp_L_law_1192 b len xs x1 x2 x3 x4 S kc ks C N hSc hg hZ23 h1
      | 15, _, z9 =>
        have h1 := h1.2.2.2.2.2.2.2.2.2.2.2.2.2.2.2.1 z9
        exact kp_L_law_1260 b len xs x1 x2 x3 x4 S kc ks C N hSc hg hZ23 h1
      | 16, _, z9 =>
        have h1 := h1.2.2.2.2.2.2.2.2.2.2.2.2.2.2.2.2.1 z9
        exact kp_L_law_1328 b len xs x1 x2 x3 x4 S kc ks C N hSc hg hZ23 h1
      | 17, _, z9 =>
        have h1 := h1.2.2.2.2.2.2.2.2.2.2.2.2.2.2.2.2.2.1 z9
        exact kp_L_law_1384 b len xs x1 x2 x3 x4 S kc ks C N hSc hg hZ23 h1
      | 18, _, z9 =>
        have h1 := h1.2.2.2.2.2.2.2.2.2.2.2.2.2.2.2.2.2.2.1 z9
        exact kp_L_law_1440 b len xs x1 x2 x3 x4 S kc ks C N hSc hg hZ23 h1
      | 19, _, z9 =>
        have h1 := h1.2.2.2.2.2.2.2.2.2.2.2.2.2.2.2.2.2.2.2.1 z9
        exact kp_L_law_1496 b len xs x1 x2 x3 x4 S kc ks C N hSc hg hZ23 h1
      | 20, _, z9 =>
        have h1 := h1.2.2.2.2.2.2.2.2.2.2.2.2.2.2.2.2.2.2.2.2.1 z9
        exact kp_L_law_1564 b len xs x1 x2 x3 x4 S kc ks C N hSc hg hZ23 h1
      | 21, _, z9 =>
        have h1 := h1.2.2.2.2.2.2.2.2.2.2.2.2.2.2.2.2.2.2.2.2.2.1 z9
        exact kp_L_law_1627 b len xs x1 x2 x3 x4 S kc ks C N hSc hg hZ23 h1
      | 22, _, z9 =>
        have h1 := h1.2.2.2.2.2.2.2.2.2.2.2.2.2.2.2.2.2.2.2.2.2.2.1 z9
        exact kp_L_law_1695 b len xs x1 x2 x3 x4 S kc ks C N hSc hg hZ23 h1
      | 23, _, z9 =>
        have h1 := h1.2.2.2.2.2.2.2.2.2.2.2.2.2.2.2.2.2.2.2.2.2.2.2.1 z9
        exact kp_L_law_1763 b len xs x1 x2 x3 x4 S kc ks C N hSc hg hZ23 h1
      | 24, _, z9 =>
        have h1 := h1.2.2.2.2.2.2.2.2.2.2.2.2.2.2.2.2.2.2.2.2.2.2.2.2.1 z9
        exact kp_L_law_1819 b len xs x1 x2 x3 x4 S kc ks C N hSc hg hZ23 h1
      | 25, _, z9 =>
        have h1 := h1.2.2.2.2.2.2.2.2.2.2.2.2.2.2.2.2.2.2.2.2.2.2.2.2.2.1 z9
        exact kp_L_law_1906 b len xs x1 x2 x3 x4 S kc ks C N hSc hg hZ23 h1
      | 26, _, z9 =>
        have h1 := h1.2.2.2.2.2.2.2.2.2.2.2.2.2.2.2.2.2.2.2.2.2.2.2.2.2.2.1 z9
        exact kp_L_law_1986 b len xs x1 x2 x3 x4 S kc ks C N hSc hg hZ23 h1
      | 27, _, z9 =>
        have h1 := h1.2.2.2.2.2.2.2.2.2.2.2.2.2.2.2.2.2.2.2.2.2.2.2.2.2.2.2.1 z9
        exact kp_L_law_2078 b len xs x1 x2 x3 x4 S kc ks C N hSc hg hZ23 h1
      | 28, _, z9 =>
        have h1 := h1.2.2.2.2.2.2.2.2.2.2.2.2.2.2.2.2.2.2.2.2.2.2.2.2.2.2.2.2.1 z9
        exact kp_L_law_2169 b len xs x1 x2 x3 x4 S kc ks C N hSc hg hZ23 h1
      | 29, _, z9 =>
        have h1 := h1.2.2.2.2.2.2.2.2.2.2.2.2.2.2.2.2.2.2.2.2.2.2.2.2.2.2.2.2.2.1 z9
        exact kp_L_law_2237 b len xs x1 x2 x3 x4 S kc ks C N hSc hg hZ23 h1
      | 30, _, z9 =>
        have h1 := h1.2.2.2.2.2.2.2.2.2.2.2.2.2.2.2.2.2.2.2.2.2.2.2.2.2.2.2.2.2.2.1 z9
        exact kp_L_law_2293 b len xs x1 x2 x3 x4 S kc ks C N hSc hg hZ23 h1
      | 31, _, z9 =>
        have h1 := h1.2.2.2.2.2.2.2.2.2.2.2.2.2.2.2.2.2.2.2.2.2.2.2.2.2.2.2.2.2.2.2.1 z9
        exact kp_L_law_2413 b len xs x1 x2 x3 x4 S kc ks C N hSc hg hZ23 h1
      | 32, _, z9 =>
        have h1 := h1.2.2.2.2.2.2.2.2.2.2.2.2.2.2.2.2.2.2.2.2.2.2.2.2.2.2.2.2.2.2.2.2.1 z9
        exact kp_L_law_2493 b len xs x1 x2 x3 x4 S kc ks C N hSc hg hZ23 h1
      | 33, _, z9 =>
        have h1 := h1.2.2.2.2.2.2.2.2.2.2.2.2.2.2.2.2.2.2.2.2.2.2.2.2.2.2.2.2.2.2.2.2.2.1 z9
        exact kp_L_law_2561 b len xs x1 x2 x3 x4 S kc ks C N hSc hg hZ23 h1
      | 34, _, z9 =>
        have h1 := h1.2.2.2.2.2.2.2.2.2.2.2.2.2.2.2.2.2.2.2.2.2.2.2.2.2.2.2.2.2.2.2.2.2.2.1 z9
        exact kp_L_law_2574 b len xs x1 x2 x3 x4 S kc ks C N hSc hg hZ23 h1
      | 35, _, z9 =>
        have h1 := h1.2.2.2.2.2.2.2.2.2.2.2.2.2.2.2.2.2.2.2.2.2.2.2.2.2.2.2.2.2.2.2.2.2.2.2.1 z9
        exact kp_L_law_2642 b len xs x1 x2 x3 x4 S kc ks C N hSc hg hZ23 h1
      | 36, _, z9 =>
        have h1 := h1.2.2.2.2.2.2.2.2.2.2.2.2.2.2.2.2.2.2.2.2.2.2.2.2.2.2.2.2.2.2.2.2.2.2.2.2.1 z9
        exact kp_L_law_2710 b len xs x1 x2 x3 x4 S kc ks C N hSc hg hZ23 h1
      | 37, _, z9 =>
        have h1 := h1.2.2.2.2.2.2.2.2.2.2.2.2.2.2.2.2.2.2.2.2.2.2.2.2.2.2.2.2.2.2.2.2.2.2.2.2.2.1 z9
        exact kp_L_law_2766 b len xs x1 x2 x3 x4 S kc ks C N hSc hg hZ23 h1
      | 38, _, z9 =>
        have h1 := h1.2.2.2.2.2.2.2.2.2.2.2.2.2.2.2.2.2.2.2.2.2.2.2.2.2.2.2.2.2.2.2.2.2.2.2.2.2.2.1 z9
        exact kp_L_law_2779 b len xs x1 x2 x3 x4 S kc ks C N hSc hg hZ23 h1
      | 39, _, z9 =>
        have h1 := h1.2.2.2.2.2.2.2.2.2.2.2.2.2.2.2.2.2.2.2.2.2.2.2.2.2.2.2.2.2.2.2.2.2.2.2.2.2.2.2.1 z9
        exact kp_L_law_2870 b len xs x1 x2 x3 x4 S kc ks C N hSc hg hZ23 h1
      | 40, _, z9 =>
        have h1 := h1.2.2.2.2.2.2.2.2.2.2.2.2.2.2.2.2.2.2.2.2.2.2.2.2.2.2.2.2.2.2.2.2.2.2.2.2.2.2.2.2.1 z9
        exact kp_L_law_2926 b len xs x1 x2 x3 x4 S kc ks C N hSc hg hZ23 h1
      | 41, _, z9 =>
        have h1 := h1.2.2.2.2.2.2.2.2.2.2.2.2.2.2.2.2.2.2.2.2.2.2.2.2.2.2.2.2.2.2.2.2.2.2.2.2.2.2.2.2.2.1 z9
        exact kp_L_law_2939 b len xs x1 x2 x3 x4 S kc ks C N hSc hg hZ23 h1
      | 42, _, z9 =>
        have h1 := h1.2.2.2.2.2.2.2.2.2.2.2.2.2.2.2.2.2.2.2.2.2.2.2.2.2.2.2.2.2.2.2.2.2.2.2.2.2.2.2.2.2.2.1 z9
        exact kp_L_law_2952 b len xs x1 x2 x3 x4 S kc ks C N hSc hg hZ23 h1
      | m9 + 43, hk9, _ => exact absurd hk9 (by omega)
    · have h1 := h1.2.2.2.2.2.2.2.2.2.2.2.2.2.2.2.2.2.2.2.2.2.2.2.2.2.2.2.2.2.2.2.2.2.2.2.2.2.2.2.2.2.2.2 z9
      exact kp_L_law_2965 b len xs x1 x2 x3 x4 S kc ks C N hSc hg hZ23 h1
theorem kp_L_law_23 {K : xm_K} (b len : Nat) (xs : Nat → Int32) (x1 : Option Nat) (x2 : Option Nat) (x3 : Option Nat) (x4 : Int32) (S : xm_S) (kc ks : Nat) {g : Int32 → xm_S → Prop} (C : xm_Cx K cL_law RL 7 (some .boolean) rm_L_law) (N : xm_Nx K) (hSc : xm_Sc K b len xs) (hg : ∀ v S, g v S → xm_q K (some (xm_i v)) S)  (h1 : wp_L_law_23 b len xs x1 x2 x3 x4 S kc ks g) : xm_W K kc ks 23 [(0, xm_w0 b), (1, xm_r x1), (2, xm_r x2), (3, xm_r x3), (4, xm_i x4)] [] S :=
  h1 (fun x1 x2 x3 x4 S kc ks => xm_W K kc ks 23 [(0, xm_w0 b), (1, xm_r x1), (2, xm_r x2), (3, xm_r x3), (4, xm_i x4)] [] S) (fun x1 x2 x3 x4 S kc ks hb => kp_L_law_23B b len xs x1 x2 x3 x4 S kc ks C N hSc hg (fun x1 x2 x3 x4 S kc ks hz => hz) hb)
def wp_L_law (b len : Nat) (xs : Nat → Int32)  (S : xm_S) (g : Int32 → xm_S → Prop) : Prop :=
  0 + 1 ≤ 601024 ∧ 0 + 18 ≤ 7293034 ∧ ∃ n1242, st_t S n1242 = none ∧ ∀ S1246, S1246 = st_nw S n1242 (11, 0) → (0 + 1) + 400 ≤ 601024 ∧ (0 + 18) + 3000 ≤ 7293034 ∧ wp_X11_init n1242 S1246 (fun S1250 => ((0 + 1) + 400) + 1 ≤ 601024 ∧ ((0 + 18) + 3000) + 65 ≤ 7293034 ∧ ∃ n1252, st_t S1250 n1252 = none ∧ ∀ S1256, S1256 = st_nw S1250 n1252 (12, 0) → (((0 + 1) + 400) + 1) + 48 ≤ 601024 ∧ (((0 + 18) + 3000) + 65) + 8339 ≤ 7293034 ∧ wp_X12_init n1252 S1256 (fun S1260 => ((((0 + 1) + 400) + 1) + 48) + 1 ≤ 601024 ∧ ((((0 + 18) + 3000) + 65) + 8339) + 1 ≤ 7293034 ∧ ∃ n1262, st_t S1260 n1262 = none ∧ ∀ S1266, S1266 = st_nw S1260 n1262 (103, 1) → wp_L_law_23 b len xs (some n1242) (some n1252) (some n1262) (0 : Int32) S1266 (((((0 + 1) + 400) + 1) + 48) + 1) (((((0 + 18) + 3000) + 65) + 8339) + 1) g))
set_option maxRecDepth 100000 in
set_option maxHeartbeats 4000000 in
theorem kp_L_law {K : xm_K} (b len : Nat) (xs : Nat → Int32)  (S : xm_S) {g : Int32 → xm_S → Prop} (C : xm_Cx K cL_law RL 7 (some .boolean) rm_L_law) (N : xm_Nx K) (hSc : xm_Sc K b len xs) (hg : ∀ v S, g v S → xm_q K (some (xm_i v)) S)  (h1 : wp_L_law b len xs  S g) : xm_W K 0 0 0 [(0, xm_w0 b)] [] S := by
  unfold wp_L_law at h1
  obtain ⟨hc1244, hc1245, h1⟩ := h1
  obtain ⟨n1242, hn1243, h1⟩ := h1
  refine x_new (n := n1242) C xc_11 gw_1245 hn1243 hc1244 hc1245 dL_law_0 ?_
  refine x_topS (fun S1246 e1247 => ?_)
  have h1 := h1 S1246 e1247
  refine x_dup_r C dL_law_3 ?_
  obtain ⟨hc1248, hc1249, h1⟩ := h1
  refine x_callI (rm' := rm_X11_init) (n := n1242) C (kp_X11_init_met h1) lk_222 gw_1248 rfl rfl rfl (Nat.le_of_ble_eq_true rfl) ⟨Nat.le_of_ble_eq_true rfl, Nat.le_of_ble_eq_true rfl, hc1248, hc1249⟩ dL_law_4 xm_kx (xm_kv (fun S1250 h1 => ?_))
  refine x_astore_n (L' := [(1, xm_r (some n1242)), (0, xm_w0 b)]) C dL_law_7 rfl (by decide) rfl ?_
  obtain ⟨hc1254, hc1255, h1⟩ := h1
  obtain ⟨n1252, hn1253, h1⟩ := h1
  refine x_new (n := n1252) C xc_12 gw_1249 hn1253 hc1254 hc1255 dL_law_8 ?_
  refine x_topS (fun S1256 e1257 => ?_)
  have h1 := h1 S1256 e1257
  refine x_dup_r C dL_law_11 ?_
  obtain ⟨hc1258, hc1259, h1⟩ := h1
  refine x_callI (rm' := rm_X12_init) (n := n1252) C (kp_X12_init_met h1) lk_223 gw_1252 rfl rfl rfl (Nat.le_of_ble_eq_true rfl) ⟨Nat.le_of_ble_eq_true rfl, Nat.le_of_ble_eq_true rfl, hc1258, hc1259⟩ dL_law_12 xm_kx (xm_kv (fun S1260 h1 => ?_))
  refine x_astore_n (L' := [(2, xm_r (some n1252)), (1, xm_r (some n1242)), (0, xm_w0 b)]) C dL_law_15 rfl (by decide) rfl ?_
  refine x_iconst (v := (1 : Int32)) C dL_law_16 (by decide) ?_
  obtain ⟨hc1264, hc1265, h1⟩ := h1
  obtain ⟨n1262, hn1263, h1⟩ := h1
  refine x_newa_l (n := n1262) (len := 1) C gw_740 (by decide) (by decide) hn1263 hc1264 hc1265 dL_law_17 ?_
  refine x_topS (fun S1266 e1267 => ?_)
  have h1 := h1 S1266 e1267
  refine x_astore_n (L' := [(3, xm_r (some n1262)), (2, xm_r (some n1252)), (1, xm_r (some n1242)), (0, xm_w0 b)]) C dL_law_19 rfl (by decide) rfl ?_
  refine x_iconst (v := (0 : Int32)) C dL_law_20 (by decide) ?_
  refine x_istore (L' := [(4, xm_i (0 : Int32)), (3, xm_r (some n1262)), (2, xm_r (some n1252)), (1, xm_r (some n1242)), (0, xm_w0 b)]) C dL_law_21 (by decide) rfl ?_
  refine x_keep (L' := [(0, xm_w0 b), (1, xm_r (some n1242)), (2, xm_r (some n1252)), (3, xm_r (some n1262)), (4, xm_i (0 : Int32))]) C [4, 3, 2, 1, 0] rfl ?_
  exact kp_L_law_23 b len xs (some n1242) (some n1252) (some n1262) (0 : Int32) S1266 (((((0 + 1) + 400) + 1) + 48) + 1) (((((0 + 18) + 3000) + 65) + 8339) + 1) C N hSc hg  h1
