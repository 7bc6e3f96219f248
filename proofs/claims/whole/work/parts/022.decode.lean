theorem dX9_divide_281 : decode cX9_divide 281 = .ok (.iconst 1, 1) := by decide +kernel
theorem dX9_divide_282 : decode cX9_divide 282 = .ok (.iadd, 1) := by decide +kernel
theorem dX9_divide_283 : decode cX9_divide 283 = .ok (.putfield 131, 3) := by decide +kernel
theorem dX9_divide_286 : decode cX9_divide 286 = .ok (.iload_n 3, 1) := by decide +kernel
theorem dX9_divide_287 : decode cX9_divide 287 = .ok (.iload 4, 2) := by decide +kernel
theorem dX9_divide_289 : decode cX9_divide 289 = .ok (.isub, 1) := by decide +kernel
theorem dX9_divide_290 : decode cX9_divide 290 = .ok (.istore 6, 2) := by decide +kernel
theorem dX9_divide_292 : decode cX9_divide 292 = .ok (.iload 6, 2) := by decide +kernel
theorem dX9_divide_294 : decode cX9_divide 294 = .ok (.ifCond .lt 24, 3) := by decide +kernel
theorem dX9_divide_297 : decode cX9_divide 297 = .ok (.aload_n 0, 1) := by decide +kernel
theorem dX9_divide_298 : decode cX9_divide 298 = .ok (.getfield 20, 3) := by decide +kernel
theorem dX9_divide_301 : decode cX9_divide 301 = .ok (.iload 6, 2) := by decide +kernel
theorem dX9_divide_303 : decode cX9_divide 303 = .ok (.aload_n 0, 1) := by decide +kernel
theorem dX9_divide_304 : decode cX9_divide 304 = .ok (.iload 6, 2) := by decide +kernel
theorem dX9_divide_306 : decode cX9_divide 306 = .ok (.iload 4, 2) := by decide +kernel
theorem dX9_divide_308 : decode cX9_divide 308 = .ok (.invokevirtual 139, 3) := by decide +kernel
theorem dX9_divide_311 : decode cX9_divide 311 = .ok (.iastore, 1) := by decide +kernel
theorem dX9_divide_312 : decode cX9_divide 312 = .ok (.iinc 6 (-1), 3) := by decide +kernel
theorem dX9_divide_315 : decode cX9_divide 315 = .ok (.goto (-23), 3) := by decide +kernel
theorem dX9_divide_318 : decode cX9_divide 318 = .ok (.aload_n 0, 1) := by decide +kernel
theorem dX9_divide_319 : decode cX9_divide 319 = .ok (.getfield 131, 3) := by decide +kernel
theorem dX9_divide_322 : decode cX9_divide 322 = .ok (.ifCond .le 30, 3) := by decide +kernel
theorem dX9_divide_325 : decode cX9_divide 325 = .ok (.aload_n 0, 1) := by decide +kernel
theorem dX9_divide_326 : decode cX9_divide 326 = .ok (.getfield 20, 3) := by decide +kernel
theorem dX9_divide_329 : decode cX9_divide 329 = .ok (.aload_n 0, 1) := by decide +kernel
theorem dX9_divide_330 : decode cX9_divide 330 = .ok (.getfield 131, 3) := by decide +kernel
theorem dX9_divide_333 : decode cX9_divide 333 = .ok (.iconst 1, 1) := by decide +kernel
theorem dX9_divide_334 : decode cX9_divide 334 = .ok (.isub, 1) := by decide +kernel
theorem dX9_divide_335 : decode cX9_divide 335 = .ok (.iaload, 1) := by decide +kernel
theorem dX9_divide_336 : decode cX9_divide 336 = .ok (.ifCond .ne 16, 3) := by decide +kernel
theorem dX9_divide_339 : decode cX9_divide 339 = .ok (.aload_n 0, 1) := by decide +kernel
theorem dX9_divide_340 : decode cX9_divide 340 = .ok (.dup, 1) := by decide +kernel
theorem dX9_divide_341 : decode cX9_divide 341 = .ok (.getfield 131, 3) := by decide +kernel
theorem dX9_divide_344 : decode cX9_divide 344 = .ok (.iconst 1, 1) := by decide +kernel
theorem dX9_divide_345 : decode cX9_divide 345 = .ok (.isub, 1) := by decide +kernel
theorem dX9_divide_346 : decode cX9_divide 346 = .ok (.putfield 131, 3) := by decide +kernel
theorem dX9_divide_349 : decode cX9_divide 349 = .ok (.goto (-31), 3) := by decide +kernel
theorem dX9_divide_352 : decode cX9_divide 352 = .ok (.iconst 0, 1) := by decide +kernel
theorem dX9_divide_353 : decode cX9_divide 353 = .ok (.istore 6, 2) := by decide +kernel
theorem dX9_divide_355 : decode cX9_divide 355 = .ok (.iload 6, 2) := by decide +kernel
theorem dX9_divide_357 : decode cX9_divide 357 = .ok (.iload 4, 2) := by decide +kernel
theorem dX9_divide_359 : decode cX9_divide 359 = .ok (.if_icmp .ge 63, 3) := by decide +kernel
theorem dX9_divide_362 : decode cX9_divide 362 = .ok (.aload_n 0, 1) := by decide +kernel
theorem dX9_divide_363 : decode cX9_divide 363 = .ok (.getfield 14, 3) := by decide +kernel
theorem dX9_divide_366 : decode cX9_divide 366 = .ok (.iload 6, 2) := by decide +kernel
theorem dX9_divide_368 : decode cX9_divide 368 = .ok (.aload_n 0, 1) := by decide +kernel
theorem dX9_divide_369 : decode cX9_divide 369 = .ok (.getfield 14, 3) := by decide +kernel
theorem dX9_divide_372 : decode cX9_divide 372 = .ok (.iload 6, 2) := by decide +kernel
theorem dX9_divide_374 : decode cX9_divide 374 = .ok (.iaload, 1) := by decide +kernel
theorem dX9_divide_375 : decode cX9_divide 375 = .ok (.iload 5, 2) := by decide +kernel
theorem dX9_divide_377 : decode cX9_divide 377 = .ok (.ishr, 1) := by decide +kernel
theorem dX9_divide_378 : decode cX9_divide 378 = .ok (.iload 6, 2) := by decide +kernel
theorem dX9_divide_380 : decode cX9_divide 380 = .ok (.iconst 1, 1) := by decide +kernel
theorem dX9_divide_381 : decode cX9_divide 381 = .ok (.iadd, 1) := by decide +kernel
theorem dX9_divide_382 : decode cX9_divide 382 = .ok (.iload 4, 2) := by decide +kernel
theorem dX9_divide_384 : decode cX9_divide 384 = .ok (.if_icmp .ge 29, 3) := by decide +kernel
theorem dX9_divide_387 : decode cX9_divide 387 = .ok (.iload 5, 2) := by decide +kernel
theorem dX9_divide_389 : decode cX9_divide 389 = .ok (.ifCond .le 24, 3) := by decide +kernel
theorem dX9_divide_392 : decode cX9_divide 392 = .ok (.aload_n 0, 1) := by decide +kernel
theorem dX9_divide_393 : decode cX9_divide 393 = .ok (.getfield 14, 3) := by decide +kernel
theorem dX9_divide_396 : decode cX9_divide 396 = .ok (.iload 6, 2) := by decide +kernel
theorem dX9_divide_398 : decode cX9_divide 398 = .ok (.iconst 1, 1) := by decide +kernel
theorem dX9_divide_399 : decode cX9_divide 399 = .ok (.iadd, 1) := by decide +kernel
theorem dX9_divide_400 : decode cX9_divide 400 = .ok (.iaload, 1) := by decide +kernel
theorem dX9_divide_401 : decode cX9_divide 401 = .ok (.bipush 30, 2) := by decide +kernel
theorem dX9_divide_403 : decode cX9_divide 403 = .ok (.iload 5, 2) := by decide +kernel
theorem dX9_divide_405 : decode cX9_divide 405 = .ok (.isub, 1) := by decide +kernel
theorem dX9_divide_406 : decode cX9_divide 406 = .ok (.ishl, 1) := by decide +kernel
theorem dX9_divide_407 : decode cX9_divide 407 = .ok (.ldc 114, 2) := by decide +kernel
theorem dX9_divide_409 : decode cX9_divide 409 = .ok (.iand, 1) := by decide +kernel
theorem dX9_divide_410 : decode cX9_divide 410 = .ok (.goto 4, 3) := by decide +kernel
theorem dX9_divide_413 : decode cX9_divide 413 = .ok (.iconst 0, 1) := by decide +kernel
theorem dX9_divide_414 : decode cX9_divide 414 = .ok (.ior, 1) := by decide +kernel
theorem dX9_divide_415 : decode cX9_divide 415 = .ok (.iastore, 1) := by decide +kernel
theorem dX9_divide_416 : decode cX9_divide 416 = .ok (.iinc 6 1, 3) := by decide +kernel
theorem dX9_divide_419 : decode cX9_divide 419 = .ok (.goto (-64), 3) := by decide +kernel
theorem dX9_divide_422 : decode cX9_divide 422 = .ok (.aload_n 0, 1) := by decide +kernel
theorem dX9_divide_423 : decode cX9_divide 423 = .ok (.iload 4, 2) := by decide +kernel
theorem dX9_divide_425 : decode cX9_divide 425 = .ok (.putfield 128, 3) := by decide +kernel
theorem dX9_divide_428 : decode cX9_divide 428 = .ok (.aload_n 0, 1) := by decide +kernel
theorem dX9_divide_429 : decode cX9_divide 429 = .ok (.getfield 128, 3) := by decide +kernel
theorem dX9_divide_432 : decode cX9_divide 432 = .ok (.ifCond .le 30, 3) := by decide +kernel
theorem dX9_divide_435 : decode cX9_divide 435 = .ok (.aload_n 0, 1) := by decide +kernel
theorem dX9_divide_436 : decode cX9_divide 436 = .ok (.getfield 14, 3) := by decide +kernel
theorem dX9_divide_439 : decode cX9_divide 439 = .ok (.aload_n 0, 1) := by decide +kernel
theorem dX9_divide_440 : decode cX9_divide 440 = .ok (.getfield 128, 3) := by decide +kernel
theorem dX9_divide_443 : decode cX9_divide 443 = .ok (.iconst 1, 1) := by decide +kernel
theorem dX9_divide_444 : decode cX9_divide 444 = .ok (.isub, 1) := by decide +kernel
theorem dX9_divide_445 : decode cX9_divide 445 = .ok (.iaload, 1) := by decide +kernel
theorem dX9_divide_446 : decode cX9_divide 446 = .ok (.ifCond .ne 16, 3) := by decide +kernel
theorem dX9_divide_449 : decode cX9_divide 449 = .ok (.aload_n 0, 1) := by decide +kernel
theorem dX9_divide_450 : decode cX9_divide 450 = .ok (.dup, 1) := by decide +kernel
theorem dX9_divide_451 : decode cX9_divide 451 = .ok (.getfield 128, 3) := by decide +kernel
theorem dX9_divide_454 : decode cX9_divide 454 = .ok (.iconst 1, 1) := by decide +kernel
theorem dX9_divide_455 : decode cX9_divide 455 = .ok (.isub, 1) := by decide +kernel
theorem dX9_divide_456 : decode cX9_divide 456 = .ok (.putfield 128, 3) := by decide +kernel
theorem dX9_divide_459 : decode cX9_divide 459 = .ok (.goto (-31), 3) := by decide +kernel
theorem dX9_divide_462 : decode cX9_divide 462 = .ok (.return_, 1) := by decide +kernel
theorem dX9_divideShort_0 : decode cX9_divideShort 0 = .ok (.lconst 0, 1) := by decide +kernel
theorem dX9_divideShort_1 : decode cX9_divideShort 1 = .ok (.lstore_n 2, 1) := by decide +kernel
theorem dX9_divideShort_2 : decode cX9_divideShort 2 = .ok (.aload_n 0, 1) := by decide +kernel
theorem dX9_divideShort_3 : decode cX9_divideShort 3 = .ok (.getfield 128, 3) := by decide +kernel
theorem dX9_divideShort_6 : decode cX9_divideShort 6 = .ok (.iconst 1, 1) := by decide +kernel
theorem dX9_divideShort_7 : decode cX9_divideShort 7 = .ok (.isub, 1) := by decide +kernel
theorem dX9_divideShort_8 : decode cX9_divideShort 8 = .ok (.istore 4, 2) := by decide +kernel
theorem dX9_divideShort_10 : decode cX9_divideShort 10 = .ok (.iload 4, 2) := by decide +kernel
theorem dX9_divideShort_12 : decode cX9_divideShort 12 = .ok (.ifCond .lt 43, 3) := by decide +kernel
theorem dX9_divideShort_15 : decode cX9_divideShort 15 = .ok (.lload_n 2, 1) := by decide +kernel
theorem dX9_divideShort_16 : decode cX9_divideShort 16 = .ok (.bipush 30, 2) := by decide +kernel
theorem dX9_divideShort_18 : decode cX9_divideShort 18 = .ok (.lshl, 1) := by decide +kernel
theorem dX9_divideShort_19 : decode cX9_divideShort 19 = .ok (.aload_n 0, 1) := by decide +kernel
theorem dX9_divideShort_20 : decode cX9_divideShort 20 = .ok (.getfield 14, 3) := by decide +kernel
theorem dX9_divideShort_23 : decode cX9_divideShort 23 = .ok (.iload 4, 2) := by decide +kernel
theorem dX9_divideShort_25 : decode cX9_divideShort 25 = .ok (.iaload, 1) := by decide +kernel
theorem dX9_divideShort_26 : decode cX9_divideShort 26 = .ok (.i2l, 1) := by decide +kernel
theorem dX9_divideShort_27 : decode cX9_divideShort 27 = .ok (.lor, 1) := by decide +kernel
theorem dX9_divideShort_28 : decode cX9_divideShort 28 = .ok (.lstore 5, 2) := by decide +kernel
theorem dX9_divideShort_30 : decode cX9_divideShort 30 = .ok (.aload_n 0, 1) := by decide +kernel
theorem dX9_divideShort_31 : decode cX9_divideShort 31 = .ok (.getfield 20, 3) := by decide +kernel
theorem dX9_divideShort_34 : decode cX9_divideShort 34 = .ok (.iload 4, 2) := by decide +kernel
theorem dX9_divideShort_36 : decode cX9_divideShort 36 = .ok (.lload 5, 2) := by decide +kernel
theorem dX9_divideShort_38 : decode cX9_divideShort 38 = .ok (.iload_n 1, 1) := by decide +kernel
theorem dX9_divideShort_39 : decode cX9_divideShort 39 = .ok (.i2l, 1) := by decide +kernel
theorem dX9_divideShort_40 : decode cX9_divideShort 40 = .ok (.ldiv, 1) := by decide +kernel
theorem dX9_divideShort_41 : decode cX9_divideShort 41 = .ok (.l2i, 1) := by decide +kernel
theorem dX9_divideShort_42 : decode cX9_divideShort 42 = .ok (.iastore, 1) := by decide +kernel
theorem dX9_divideShort_43 : decode cX9_divideShort 43 = .ok (.lload 5, 2) := by decide +kernel
theorem dX9_divideShort_45 : decode cX9_divideShort 45 = .ok (.iload_n 1, 1) := by decide +kernel
theorem dX9_divideShort_46 : decode cX9_divideShort 46 = .ok (.i2l, 1) := by decide +kernel
theorem dX9_divideShort_47 : decode cX9_divideShort 47 = .ok (.lrem, 1) := by decide +kernel
theorem dX9_divideShort_48 : decode cX9_divideShort 48 = .ok (.lstore_n 2, 1) := by decide +kernel
theorem dX9_divideShort_49 : decode cX9_divideShort 49 = .ok (.iinc 4 (-1), 3) := by decide +kernel
theorem dX9_divideShort_52 : decode cX9_divideShort 52 = .ok (.goto (-42), 3) := by decide +kernel
theorem dX9_divideShort_55 : decode cX9_divideShort 55 = .ok (.aload_n 0, 1) := by decide +kernel
theorem dX9_divideShort_56 : decode cX9_divideShort 56 = .ok (.aload_n 0, 1) := by decide +kernel
theorem dX9_divideShort_57 : decode cX9_divideShort 57 = .ok (.getfield 128, 3) := by decide +kernel
theorem dX9_divideShort_60 : decode cX9_divideShort 60 = .ok (.putfield 131, 3) := by decide +kernel
theorem dX9_divideShort_63 : decode cX9_divideShort 63 = .ok (.aload_n 0, 1) := by decide +kernel
theorem dX9_divideShort_64 : decode cX9_divideShort 64 = .ok (.getfield 131, 3) := by decide +kernel
theorem dX9_divideShort_67 : decode cX9_divideShort 67 = .ok (.ifCond .le 30, 3) := by decide +kernel
theorem dX9_divideShort_70 : decode cX9_divideShort 70 = .ok (.aload_n 0, 1) := by decide +kernel
theorem dX9_divideShort_71 : decode cX9_divideShort 71 = .ok (.getfield 20, 3) := by decide +kernel
theorem dX9_divideShort_74 : decode cX9_divideShort 74 = .ok (.aload_n 0, 1) := by decide +kernel
theorem dX9_divideShort_75 : decode cX9_divideShort 75 = .ok (.getfield 131, 3) := by decide +kernel
theorem dX9_divideShort_78 : decode cX9_divideShort 78 = .ok (.iconst 1, 1) := by decide +kernel
theorem dX9_divideShort_79 : decode cX9_divideShort 79 = .ok (.isub, 1) := by decide +kernel
theorem dX9_divideShort_80 : decode cX9_divideShort 80 = .ok (.iaload, 1) := by decide +kernel
theorem dX9_divideShort_81 : decode cX9_divideShort 81 = .ok (.ifCond .ne 16, 3) := by decide +kernel
theorem dX9_divideShort_84 : decode cX9_divideShort 84 = .ok (.aload_n 0, 1) := by decide +kernel
theorem dX9_divideShort_85 : decode cX9_divideShort 85 = .ok (.dup, 1) := by decide +kernel
theorem dX9_divideShort_86 : decode cX9_divideShort 86 = .ok (.getfield 131, 3) := by decide +kernel
theorem dX9_divideShort_89 : decode cX9_divideShort 89 = .ok (.iconst 1, 1) := by decide +kernel
theorem dX9_divideShort_90 : decode cX9_divideShort 90 = .ok (.isub, 1) := by decide +kernel
theorem dX9_divideShort_91 : decode cX9_divideShort 91 = .ok (.putfield 131, 3) := by decide +kernel
theorem dX9_divideShort_94 : decode cX9_divideShort 94 = .ok (.goto (-31), 3) := by decide +kernel
theorem dX9_divideShort_97 : decode cX9_divideShort 97 = .ok (.aload_n 0, 1) := by decide +kernel
theorem dX9_divideShort_98 : decode cX9_divideShort 98 = .ok (.getfield 14, 3) := by decide +kernel
theorem dX9_divideShort_101 : decode cX9_divideShort 101 = .ok (.iconst 0, 1) := by decide +kernel
theorem dX9_divideShort_102 : decode cX9_divideShort 102 = .ok (.lload_n 2, 1) := by decide +kernel
theorem dX9_divideShort_103 : decode cX9_divideShort 103 = .ok (.l2i, 1) := by decide +kernel
theorem dX9_divideShort_104 : decode cX9_divideShort 104 = .ok (.iastore, 1) := by decide +kernel
theorem dX9_divideShort_105 : decode cX9_divideShort 105 = .ok (.aload_n 0, 1) := by decide +kernel
theorem dX9_divideShort_106 : decode cX9_divideShort 106 = .ok (.lload_n 2, 1) := by decide +kernel
theorem dX9_divideShort_107 : decode cX9_divideShort 107 = .ok (.lconst 0, 1) := by decide +kernel
theorem dX9_divideShort_108 : decode cX9_divideShort 108 = .ok (.lcmp, 1) := by decide +kernel
theorem dX9_divideShort_109 : decode cX9_divideShort 109 = .ok (.ifCond .ne 7, 3) := by decide +kernel
theorem dX9_divideShort_112 : decode cX9_divideShort 112 = .ok (.iconst 0, 1) := by decide +kernel
theorem dX9_divideShort_113 : decode cX9_divideShort 113 = .ok (.goto 4, 3) := by decide +kernel
theorem dX9_divideShort_116 : decode cX9_divideShort 116 = .ok (.iconst 1, 1) := by decide +kernel
theorem dX9_divideShort_117 : decode cX9_divideShort 117 = .ok (.putfield 128, 3) := by decide +kernel
theorem dX9_divideShort_120 : decode cX9_divideShort 120 = .ok (.return_, 1) := by decide +kernel
theorem dX9_stepOff_0 : decode cX9_stepOff 0 = .ok (.aload_n 0, 1) := by decide +kernel
theorem dX9_stepOff_1 : decode cX9_stepOff 1 = .ok (.getfield 14, 3) := by decide +kernel
theorem dX9_stepOff_4 : decode cX9_stepOff 4 = .ok (.iload_n 1, 1) := by decide +kernel
theorem dX9_stepOff_5 : decode cX9_stepOff 5 = .ok (.iload_n 2, 1) := by decide +kernel
theorem dX9_stepOff_6 : decode cX9_stepOff 6 = .ok (.iadd, 1) := by decide +kernel
theorem dX9_stepOff_7 : decode cX9_stepOff 7 = .ok (.iaload, 1) := by decide +kernel
theorem dX9_stepOff_8 : decode cX9_stepOff 8 = .ok (.i2l, 1) := by decide +kernel
theorem dX9_stepOff_9 : decode cX9_stepOff 9 = .ok (.bipush 30, 2) := by decide +kernel
theorem dX9_stepOff_11 : decode cX9_stepOff 11 = .ok (.lshl, 1) := by decide +kernel
theorem dX9_stepOff_12 : decode cX9_stepOff 12 = .ok (.aload_n 0, 1) := by decide +kernel
theorem dX9_stepOff_13 : decode cX9_stepOff 13 = .ok (.getfield 14, 3) := by decide +kernel
theorem dX9_stepOff_16 : decode cX9_stepOff 16 = .ok (.iload_n 1, 1) := by decide +kernel
theorem dX9_stepOff_17 : decode cX9_stepOff 17 = .ok (.iload_n 2, 1) := by decide +kernel
theorem dX9_stepOff_18 : decode cX9_stepOff 18 = .ok (.iadd, 1) := by decide +kernel
theorem dX9_stepOff_19 : decode cX9_stepOff 19 = .ok (.iconst 1, 1) := by decide +kernel
theorem dX9_stepOff_20 : decode cX9_stepOff 20 = .ok (.isub, 1) := by decide +kernel
theorem dX9_stepOff_21 : decode cX9_stepOff 21 = .ok (.iaload, 1) := by decide +kernel
theorem dX9_stepOff_22 : decode cX9_stepOff 22 = .ok (.i2l, 1) := by decide +kernel
theorem dX9_stepOff_23 : decode cX9_stepOff 23 = .ok (.lor, 1) := by decide +kernel
theorem dX9_stepOff_24 : decode cX9_stepOff 24 = .ok (.lstore_n 3, 1) := by decide +kernel
theorem dX9_stepOff_25 : decode cX9_stepOff 25 = .ok (.lload_n 3, 1) := by decide +kernel
theorem dX9_stepOff_26 : decode cX9_stepOff 26 = .ok (.aload_n 0, 1) := by decide +kernel
theorem dX9_stepOff_27 : decode cX9_stepOff 27 = .ok (.getfield 17, 3) := by decide +kernel
theorem dX9_stepOff_30 : decode cX9_stepOff 30 = .ok (.iload_n 2, 1) := by decide +kernel
theorem dX9_stepOff_31 : decode cX9_stepOff 31 = .ok (.iconst 1, 1) := by decide +kernel
theorem dX9_stepOff_32 : decode cX9_stepOff 32 = .ok (.isub, 1) := by decide +kernel
theorem dX9_stepOff_33 : decode cX9_stepOff 33 = .ok (.iaload, 1) := by decide +kernel
theorem dX9_stepOff_34 : decode cX9_stepOff 34 = .ok (.i2l, 1) := by decide +kernel
theorem dX9_stepOff_35 : decode cX9_stepOff 35 = .ok (.ldiv, 1) := by decide +kernel
theorem dX9_stepOff_36 : decode cX9_stepOff 36 = .ok (.ldc2_w 93, 3) := by decide +kernel
theorem dX9_stepOff_39 : decode cX9_stepOff 39 = .ok (.invokestatic 142, 3) := by decide +kernel
theorem dX9_stepOff_42 : decode cX9_stepOff 42 = .ok (.lstore 5, 2) := by decide +kernel
theorem dX9_stepOff_44 : decode cX9_stepOff 44 = .ok (.lconst 0, 1) := by decide +kernel
theorem dX9_stepOff_45 : decode cX9_stepOff 45 = .ok (.lstore 7, 2) := by decide +kernel
theorem dX9_stepOff_47 : decode cX9_stepOff 47 = .ok (.lconst 0, 1) := by decide +kernel
theorem dX9_stepOff_48 : decode cX9_stepOff 48 = .ok (.lstore 9, 2) := by decide +kernel
theorem dX9_stepOff_50 : decode cX9_stepOff 50 = .ok (.iconst 0, 1) := by decide +kernel
theorem dX9_stepOff_51 : decode cX9_stepOff 51 = .ok (.istore 11, 2) := by decide +kernel
theorem dX9_stepOff_53 : decode cX9_stepOff 53 = .ok (.iload 11, 2) := by decide +kernel
theorem dX9_stepOff_55 : decode cX9_stepOff 55 = .ok (.iload_n 2, 1) := by decide +kernel
theorem dX9_stepOff_56 : decode cX9_stepOff 56 = .ok (.if_icmp .ge 84, 3) := by decide +kernel
theorem dX9_stepOff_59 : decode cX9_stepOff 59 = .ok (.lload 7, 2) := by decide +kernel
theorem dX9_stepOff_61 : decode cX9_stepOff 61 = .ok (.lload 5, 2) := by decide +kernel
theorem dX9_stepOff_63 : decode cX9_stepOff 63 = .ok (.aload_n 0, 1) := by decide +kernel
theorem dX9_stepOff_64 : decode cX9_stepOff 64 = .ok (.getfield 17, 3) := by decide +kernel
theorem dX9_stepOff_67 : decode cX9_stepOff 67 = .ok (.iload 11, 2) := by decide +kernel
theorem dX9_stepOff_69 : decode cX9_stepOff 69 = .ok (.iaload, 1) := by decide +kernel
theorem dX9_stepOff_70 : decode cX9_stepOff 70 = .ok (.i2l, 1) := by decide +kernel
theorem dX9_stepOff_71 : decode cX9_stepOff 71 = .ok (.lmul, 1) := by decide +kernel
theorem dX9_stepOff_72 : decode cX9_stepOff 72 = .ok (.ladd, 1) := by decide +kernel
theorem dX9_stepOff_73 : decode cX9_stepOff 73 = .ok (.lstore 7, 2) := by decide +kernel
theorem dX9_stepOff_75 : decode cX9_stepOff 75 = .ok (.aload_n 0, 1) := by decide +kernel
theorem dX9_stepOff_76 : decode cX9_stepOff 76 = .ok (.getfield 14, 3) := by decide +kernel
theorem dX9_stepOff_79 : decode cX9_stepOff 79 = .ok (.iload_n 1, 1) := by decide +kernel
theorem dX9_stepOff_80 : decode cX9_stepOff 80 = .ok (.iload 11, 2) := by decide +kernel
theorem dX9_stepOff_82 : decode cX9_stepOff 82 = .ok (.iadd, 1) := by decide +kernel
theorem dX9_stepOff_83 : decode cX9_stepOff 83 = .ok (.iaload, 1) := by decide +kernel
theorem dX9_stepOff_84 : decode cX9_stepOff 84 = .ok (.i2l, 1) := by decide +kernel
theorem dX9_stepOff_85 : decode cX9_stepOff 85 = .ok (.lload 7, 2) := by decide +kernel
theorem dX9_stepOff_87 : decode cX9_stepOff 87 = .ok (.ldc2_w 93, 3) := by decide +kernel
theorem dX9_stepOff_90 : decode cX9_stepOff 90 = .ok (.land, 1) := by decide +kernel
theorem dX9_stepOff_91 : decode cX9_stepOff 91 = .ok (.lsub, 1) := by decide +kernel
theorem dX9_stepOff_92 : decode cX9_stepOff 92 = .ok (.lload 9, 2) := by decide +kernel
theorem dX9_stepOff_94 : decode cX9_stepOff 94 = .ok (.lsub, 1) := by decide +kernel
theorem dX9_stepOff_95 : decode cX9_stepOff 95 = .ok (.lstore 12, 2) := by decide +kernel
theorem dX9_stepOff_97 : decode cX9_stepOff 97 = .ok (.lload 7, 2) := by decide +kernel
theorem dX9_stepOff_99 : decode cX9_stepOff 99 = .ok (.bipush 30, 2) := by decide +kernel
theorem dX9_stepOff_101 : decode cX9_stepOff 101 = .ok (.lushr, 1) := by decide +kernel
theorem dX9_stepOff_102 : decode cX9_stepOff 102 = .ok (.lstore 7, 2) := by decide +kernel
theorem dX9_stepOff_104 : decode cX9_stepOff 104 = .ok (.lload 12, 2) := by decide +kernel
theorem dX9_stepOff_106 : decode cX9_stepOff 106 = .ok (.lconst 0, 1) := by decide +kernel
theorem dX9_stepOff_107 : decode cX9_stepOff 107 = .ok (.lcmp, 1) := by decide +kernel
theorem dX9_stepOff_108 : decode cX9_stepOff 108 = .ok (.ifCond .ge 7, 3) := by decide +kernel
theorem dX9_stepOff_111 : decode cX9_stepOff 111 = .ok (.lconst 1, 1) := by decide +kernel
theorem dX9_stepOff_112 : decode cX9_stepOff 112 = .ok (.goto 4, 3) := by decide +kernel
theorem dX9_stepOff_115 : decode cX9_stepOff 115 = .ok (.lconst 0, 1) := by decide +kernel
theorem dX9_stepOff_116 : decode cX9_stepOff 116 = .ok (.lstore 9, 2) := by decide +kernel
theorem dX9_stepOff_118 : decode cX9_stepOff 118 = .ok (.aload_n 0, 1) := by decide +kernel
theorem dX9_stepOff_119 : decode cX9_stepOff 119 = .ok (.getfield 14, 3) := by decide +kernel
theorem dX9_stepOff_122 : decode cX9_stepOff 122 = .ok (.iload_n 1, 1) := by decide +kernel
theorem dX9_stepOff_123 : decode cX9_stepOff 123 = .ok (.iload 11, 2) := by decide +kernel
theorem dX9_stepOff_125 : decode cX9_stepOff 125 = .ok (.iadd, 1) := by decide +kernel
theorem dX9_stepOff_126 : decode cX9_stepOff 126 = .ok (.lload 12, 2) := by decide +kernel
theorem dX9_stepOff_128 : decode cX9_stepOff 128 = .ok (.ldc2_w 93, 3) := by decide +kernel
theorem dX9_stepOff_131 : decode cX9_stepOff 131 = .ok (.land, 1) := by decide +kernel
theorem dX9_stepOff_132 : decode cX9_stepOff 132 = .ok (.l2i, 1) := by decide +kernel
theorem dX9_stepOff_133 : decode cX9_stepOff 133 = .ok (.iastore, 1) := by decide +kernel
theorem dX9_stepOff_134 : decode cX9_stepOff 134 = .ok (.iinc 11 1, 3) := by decide +kernel
theorem dX9_stepOff_137 : decode cX9_stepOff 137 = .ok (.goto (-84), 3) := by decide +kernel
theorem dX9_stepOff_140 : decode cX9_stepOff 140 = .ok (.aload_n 0, 1) := by decide +kernel
theorem dX9_stepOff_141 : decode cX9_stepOff 141 = .ok (.getfield 14, 3) := by decide +kernel
theorem dX9_stepOff_144 : decode cX9_stepOff 144 = .ok (.iload_n 1, 1) := by decide +kernel
theorem dX9_stepOff_145 : decode cX9_stepOff 145 = .ok (.iload_n 2, 1) := by decide +kernel
theorem dX9_stepOff_146 : decode cX9_stepOff 146 = .ok (.iadd, 1) := by decide +kernel
theorem dX9_stepOff_147 : decode cX9_stepOff 147 = .ok (.iaload, 1) := by decide +kernel
theorem dX9_stepOff_148 : decode cX9_stepOff 148 = .ok (.i2l, 1) := by decide +kernel
theorem dX9_stepOff_149 : decode cX9_stepOff 149 = .ok (.lload 7, 2) := by decide +kernel
theorem dX9_stepOff_151 : decode cX9_stepOff 151 = .ok (.lsub, 1) := by decide +kernel
theorem dX9_stepOff_152 : decode cX9_stepOff 152 = .ok (.lload 9, 2) := by decide +kernel
theorem dX9_stepOff_154 : decode cX9_stepOff 154 = .ok (.lsub, 1) := by decide +kernel
theorem dX9_stepOff_155 : decode cX9_stepOff 155 = .ok (.lstore 11, 2) := by decide +kernel
theorem dX9_stepOff_157 : decode cX9_stepOff 157 = .ok (.lload 11, 2) := by decide +kernel
theorem dX9_stepOff_159 : decode cX9_stepOff 159 = .ok (.lconst 0, 1) := by decide +kernel
theorem dX9_stepOff_160 : decode cX9_stepOff 160 = .ok (.lcmp, 1) := by decide +kernel
theorem dX9_stepOff_161 : decode cX9_stepOff 161 = .ok (.ifCond .ge 84, 3) := by decide +kernel
theorem dX9_stepOff_164 : decode cX9_stepOff 164 = .ok (.lload 5, 2) := by decide +kernel
theorem dX9_stepOff_166 : decode cX9_stepOff 166 = .ok (.lconst 1, 1) := by decide +kernel
theorem dX9_stepOff_167 : decode cX9_stepOff 167 = .ok (.lsub, 1) := by decide +kernel
theorem dX9_stepOff_168 : decode cX9_stepOff 168 = .ok (.lstore 5, 2) := by decide +kernel
theorem dX9_stepOff_170 : decode cX9_stepOff 170 = .ok (.lconst 0, 1) := by decide +kernel
theorem dX9_stepOff_171 : decode cX9_stepOff 171 = .ok (.lstore 13, 2) := by decide +kernel
theorem dX9_stepOff_173 : decode cX9_stepOff 173 = .ok (.iconst 0, 1) := by decide +kernel
theorem dX9_stepOff_174 : decode cX9_stepOff 174 = .ok (.istore 15, 2) := by decide +kernel
theorem dX9_stepOff_176 : decode cX9_stepOff 176 = .ok (.iload 15, 2) := by decide +kernel
theorem dX9_stepOff_178 : decode cX9_stepOff 178 = .ok (.iload_n 2, 1) := by decide +kernel
theorem dX9_stepOff_179 : decode cX9_stepOff 179 = .ok (.if_icmp .ge 56, 3) := by decide +kernel
theorem dX9_stepOff_182 : decode cX9_stepOff 182 = .ok (.lload 13, 2) := by decide +kernel
theorem dX9_stepOff_184 : decode cX9_stepOff 184 = .ok (.aload_n 0, 1) := by decide +kernel
theorem dX9_stepOff_185 : decode cX9_stepOff 185 = .ok (.getfield 14, 3) := by decide +kernel
theorem dX9_stepOff_188 : decode cX9_stepOff 188 = .ok (.iload_n 1, 1) := by decide +kernel
theorem dX9_stepOff_189 : decode cX9_stepOff 189 = .ok (.iload 15, 2) := by decide +kernel
theorem dX9_stepOff_191 : decode cX9_stepOff 191 = .ok (.iadd, 1) := by decide +kernel
theorem dX9_stepOff_192 : decode cX9_stepOff 192 = .ok (.iaload, 1) := by decide +kernel
theorem dX9_stepOff_193 : decode cX9_stepOff 193 = .ok (.i2l, 1) := by decide +kernel
theorem dX9_stepOff_194 : decode cX9_stepOff 194 = .ok (.aload_n 0, 1) := by decide +kernel
theorem dX9_stepOff_195 : decode cX9_stepOff 195 = .ok (.getfield 17, 3) := by decide +kernel
theorem dX9_stepOff_198 : decode cX9_stepOff 198 = .ok (.iload 15, 2) := by decide +kernel
theorem dX9_stepOff_200 : decode cX9_stepOff 200 = .ok (.iaload, 1) := by decide +kernel
theorem dX9_stepOff_201 : decode cX9_stepOff 201 = .ok (.i2l, 1) := by decide +kernel
theorem dX9_stepOff_202 : decode cX9_stepOff 202 = .ok (.ladd, 1) := by decide +kernel
theorem dX9_stepOff_203 : decode cX9_stepOff 203 = .ok (.ladd, 1) := by decide +kernel
theorem dX9_stepOff_204 : decode cX9_stepOff 204 = .ok (.lstore 13, 2) := by decide +kernel
theorem dX9_stepOff_206 : decode cX9_stepOff 206 = .ok (.aload_n 0, 1) := by decide +kernel
theorem dX9_stepOff_207 : decode cX9_stepOff 207 = .ok (.getfield 14, 3) := by decide +kernel
theorem dX9_stepOff_210 : decode cX9_stepOff 210 = .ok (.iload_n 1, 1) := by decide +kernel
theorem dX9_stepOff_211 : decode cX9_stepOff 211 = .ok (.iload 15, 2) := by decide +kernel
theorem dX9_stepOff_213 : decode cX9_stepOff 213 = .ok (.iadd, 1) := by decide +kernel
theorem dX9_stepOff_214 : decode cX9_stepOff 214 = .ok (.lload 13, 2) := by decide +kernel
theorem dX9_stepOff_216 : decode cX9_stepOff 216 = .ok (.ldc2_w 93, 3) := by decide +kernel
theorem dX9_stepOff_219 : decode cX9_stepOff 219 = .ok (.land, 1) := by decide +kernel
theorem dX9_stepOff_220 : decode cX9_stepOff 220 = .ok (.l2i, 1) := by decide +kernel
theorem dX9_stepOff_221 : decode cX9_stepOff 221 = .ok (.iastore, 1) := by decide +kernel
theorem dX9_stepOff_222 : decode cX9_stepOff 222 = .ok (.lload 13, 2) := by decide +kernel
theorem dX9_stepOff_224 : decode cX9_stepOff 224 = .ok (.bipush 30, 2) := by decide +kernel
theorem dX9_stepOff_226 : decode cX9_stepOff 226 = .ok (.lushr, 1) := by decide +kernel
theorem dX9_stepOff_227 : decode cX9_stepOff 227 = .ok (.lstore 13, 2) := by decide +kernel
theorem dX9_stepOff_229 : decode cX9_stepOff 229 = .ok (.iinc 15 1, 3) := by decide +kernel
theorem dX9_stepOff_232 : decode cX9_stepOff 232 = .ok (.goto (-56), 3) := by decide +kernel
theorem dX9_stepOff_235 : decode cX9_stepOff 235 = .ok (.lload 11, 2) := by decide +kernel
theorem dX9_stepOff_237 : decode cX9_stepOff 237 = .ok (.lload 13, 2) := by decide +kernel
theorem dX9_stepOff_239 : decode cX9_stepOff 239 = .ok (.ladd, 1) := by decide +kernel
theorem dX9_stepOff_240 : decode cX9_stepOff 240 = .ok (.lstore 11, 2) := by decide +kernel
theorem dX9_stepOff_242 : decode cX9_stepOff 242 = .ok (.goto (-85), 3) := by decide +kernel
theorem dX9_stepOff_245 : decode cX9_stepOff 245 = .ok (.aload_n 0, 1) := by decide +kernel
theorem dX9_stepOff_246 : decode cX9_stepOff 246 = .ok (.getfield 14, 3) := by decide +kernel
theorem dX9_stepOff_249 : decode cX9_stepOff 249 = .ok (.iload_n 1, 1) := by decide +kernel
theorem dX9_stepOff_250 : decode cX9_stepOff 250 = .ok (.iload_n 2, 1) := by decide +kernel
theorem dX9_stepOff_251 : decode cX9_stepOff 251 = .ok (.iadd, 1) := by decide +kernel
theorem dX9_stepOff_252 : decode cX9_stepOff 252 = .ok (.lload 11, 2) := by decide +kernel
theorem dX9_stepOff_254 : decode cX9_stepOff 254 = .ok (.l2i, 1) := by decide +kernel
theorem dX9_stepOff_255 : decode cX9_stepOff 255 = .ok (.iastore, 1) := by decide +kernel
theorem dX9_stepOff_256 : decode cX9_stepOff 256 = .ok (.lload 5, 2) := by decide +kernel
theorem dX9_stepOff_258 : decode cX9_stepOff 258 = .ok (.l2i, 1) := by decide +kernel
theorem dX9_stepOff_259 : decode cX9_stepOff 259 = .ok (.ireturn, 1) := by decide +kernel
theorem dX9_divided_0 : decode cX9_divided 0 = .ok (.aload_n 0, 1) := by decide +kernel
theorem dX9_divided_1 : decode cX9_divided 1 = .ok (.iload_n 1, 1) := by decide +kernel
theorem dX9_divided_2 : decode cX9_divided 2 = .ok (.iload_n 2, 1) := by decide +kernel
theorem dX9_divided_3 : decode cX9_divided 3 = .ok (.invokevirtual 146, 3) := by decide +kernel
theorem dX9_divided_6 : decode cX9_divided 6 = .ok (.aload_n 0, 1) := by decide +kernel
theorem dX9_divided_7 : decode cX9_divided 7 = .ok (.aload_n 0, 1) := by decide +kernel
theorem dX9_divided_8 : decode cX9_divided 8 = .ok (.getfield 131, 3) := by decide +kernel
theorem dX9_divided_11 : decode cX9_divided 11 = .ok (.invokevirtual 89, 3) := by decide +kernel
theorem dX9_divided_14 : decode cX9_divided 14 = .ok (.istore_n 3, 1) := by decide +kernel
theorem dX9_divided_15 : decode cX9_divided 15 = .ok (.iconst 0, 1) := by decide +kernel
theorem dX9_divided_16 : decode cX9_divided 16 = .ok (.istore 4, 2) := by decide +kernel
theorem dX9_divided_18 : decode cX9_divided 18 = .ok (.iload 4, 2) := by decide +kernel
theorem dX9_divided_20 : decode cX9_divided 20 = .ok (.aload_n 0, 1) := by decide +kernel
theorem dX9_divided_21 : decode cX9_divided 21 = .ok (.getfield 131, 3) := by decide +kernel
theorem dX9_divided_24 : decode cX9_divided 24 = .ok (.if_icmp .ge 27, 3) := by decide +kernel
theorem dX9_divided_27 : decode cX9_divided 27 = .ok (.aload_n 0, 1) := by decide +kernel
theorem dX9_divided_28 : decode cX9_divided 28 = .ok (.getfield 8, 3) := by decide +kernel
theorem dX9_divided_31 : decode cX9_divided 31 = .ok (.iload_n 3, 1) := by decide +kernel
theorem dX9_divided_32 : decode cX9_divided 32 = .ok (.iconst 1, 1) := by decide +kernel
theorem dX9_divided_33 : decode cX9_divided 33 = .ok (.iadd, 1) := by decide +kernel
theorem dX9_divided_34 : decode cX9_divided 34 = .ok (.iload 4, 2) := by decide +kernel
theorem dX9_divided_36 : decode cX9_divided 36 = .ok (.iadd, 1) := by decide +kernel
theorem dX9_divided_37 : decode cX9_divided 37 = .ok (.aload_n 0, 1) := by decide +kernel
theorem dX9_divided_38 : decode cX9_divided 38 = .ok (.getfield 20, 3) := by decide +kernel
theorem dX9_divided_41 : decode cX9_divided 41 = .ok (.iload 4, 2) := by decide +kernel
theorem dX9_divided_43 : decode cX9_divided 43 = .ok (.iaload, 1) := by decide +kernel
theorem dX9_divided_44 : decode cX9_divided 44 = .ok (.iastore, 1) := by decide +kernel
theorem dX9_divided_45 : decode cX9_divided 45 = .ok (.iinc 4 1, 3) := by decide +kernel
theorem dX9_divided_48 : decode cX9_divided 48 = .ok (.goto (-30), 3) := by decide +kernel
theorem dX9_divided_51 : decode cX9_divided 51 = .ok (.aload_n 0, 1) := by decide +kernel
theorem dX9_divided_52 : decode cX9_divided 52 = .ok (.iload_n 3, 1) := by decide +kernel
theorem dX9_divided_53 : decode cX9_divided 53 = .ok (.aload_n 0, 1) := by decide +kernel
theorem dX9_divided_54 : decode cX9_divided 54 = .ok (.getfield 131, 3) := by decide +kernel
theorem dX9_divided_57 : decode cX9_divided 57 = .ok (.aload_n 0, 1) := by decide +kernel
theorem dX9_divided_58 : decode cX9_divided 58 = .ok (.iload_n 1, 1) := by decide +kernel
theorem dX9_divided_59 : decode cX9_divided 59 = .ok (.invokevirtual 105, 3) := by decide +kernel
theorem dX9_divided_62 : decode cX9_divided 62 = .ok (.aload_n 0, 1) := by decide +kernel
theorem dX9_divided_63 : decode cX9_divided 63 = .ok (.iload_n 2, 1) := by decide +kernel
theorem dX9_divided_64 : decode cX9_divided 64 = .ok (.invokevirtual 105, 3) := by decide +kernel
theorem dX9_divided_67 : decode cX9_divided 67 = .ok (.if_icmp .eq 14, 3) := by decide +kernel
theorem dX9_divided_70 : decode cX9_divided 70 = .ok (.aload_n 0, 1) := by decide +kernel
theorem dX9_divided_71 : decode cX9_divided 71 = .ok (.getfield 131, 3) := by decide +kernel
theorem dX9_divided_74 : decode cX9_divided 74 = .ok (.ifCond .le 7, 3) := by decide +kernel
theorem dX9_divided_77 : decode cX9_divided 77 = .ok (.iconst 1, 1) := by decide +kernel
theorem dX9_divided_78 : decode cX9_divided 78 = .ok (.goto 4, 3) := by decide +kernel
theorem dX9_divided_81 : decode cX9_divided 81 = .ok (.iconst 0, 1) := by decide +kernel
theorem dX9_divided_82 : decode cX9_divided 82 = .ok (.invokevirtual 95, 3) := by decide +kernel
theorem dX9_divided_85 : decode cX9_divided 85 = .ok (.ireturn, 1) := by decide +kernel
theorem dX9_common_0 : decode cX9_common 0 = .ok (.aload_n 0, 1) := by decide +kernel
theorem dX9_common_1 : decode cX9_common 1 = .ok (.getfield 86, 3) := by decide +kernel
theorem dX9_common_4 : decode cX9_common 4 = .ok (.istore_n 3, 1) := by decide +kernel
theorem dX9_common_5 : decode cX9_common 5 = .ok (.aload_n 0, 1) := by decide +kernel
theorem dX9_common_6 : decode cX9_common 6 = .ok (.iload_n 1, 1) := by decide +kernel
theorem dX9_common_7 : decode cX9_common 7 = .ok (.invokevirtual 99, 3) := by decide +kernel
theorem dX9_common_10 : decode cX9_common 10 = .ok (.aload_n 0, 1) := by decide +kernel
theorem dX9_common_11 : decode cX9_common 11 = .ok (.iload_n 2, 1) := by decide +kernel
theorem dX9_common_12 : decode cX9_common 12 = .ok (.invokevirtual 99, 3) := by decide +kernel
theorem dX9_common_15 : decode cX9_common 15 = .ok (.invokestatic 108, 3) := by decide +kernel
theorem dX9_common_18 : decode cX9_common 18 = .ok (.iconst 2, 1) := by decide +kernel
theorem dX9_common_19 : decode cX9_common 19 = .ok (.iadd, 1) := by decide +kernel
theorem dX9_common_20 : decode cX9_common 20 = .ok (.istore 4, 2) := by decide +kernel
theorem dX9_common_22 : decode cX9_common 22 = .ok (.aload_n 0, 1) := by decide +kernel
theorem dX9_common_23 : decode cX9_common 23 = .ok (.iload 4, 2) := by decide +kernel
theorem dX9_common_25 : decode cX9_common 25 = .ok (.invokevirtual 89, 3) := by decide +kernel
theorem dX9_common_28 : decode cX9_common 28 = .ok (.istore 5, 2) := by decide +kernel
theorem dX9_common_30 : decode cX9_common 30 = .ok (.aload_n 0, 1) := by decide +kernel
theorem dX9_common_31 : decode cX9_common 31 = .ok (.iload 4, 2) := by decide +kernel
theorem dX9_common_33 : decode cX9_common 33 = .ok (.invokevirtual 89, 3) := by decide +kernel
theorem dX9_common_36 : decode cX9_common 36 = .ok (.istore 6, 2) := by decide +kernel
theorem dX9_common_38 : decode cX9_common 38 = .ok (.aload_n 0, 1) := by decide +kernel
theorem dX9_common_39 : decode cX9_common 39 = .ok (.iload 4, 2) := by decide +kernel
theorem dX9_common_41 : decode cX9_common 41 = .ok (.invokevirtual 89, 3) := by decide +kernel
theorem dX9_common_44 : decode cX9_common 44 = .ok (.istore 7, 2) := by decide +kernel
theorem dX9_common_46 : decode cX9_common 46 = .ok (.aload_n 0, 1) := by decide +kernel
theorem dX9_common_47 : decode cX9_common 47 = .ok (.iload 5, 2) := by decide +kernel
theorem dX9_common_49 : decode cX9_common 49 = .ok (.iload_n 1, 1) := by decide +kernel
theorem dX9_common_50 : decode cX9_common 50 = .ok (.invokevirtual 150, 3) := by decide +kernel
theorem dX9_common_53 : decode cX9_common 53 = .ok (.aload_n 0, 1) := by decide +kernel
theorem dX9_common_54 : decode cX9_common 54 = .ok (.iload 6, 2) := by decide +kernel
theorem dX9_common_56 : decode cX9_common 56 = .ok (.iload_n 2, 1) := by decide +kernel
theorem dX9_common_57 : decode cX9_common 57 = .ok (.invokevirtual 150, 3) := by decide +kernel
theorem dX9_common_60 : decode cX9_common 60 = .ok (.aload_n 0, 1) := by decide +kernel
theorem dX9_common_61 : decode cX9_common 61 = .ok (.getfield 8, 3) := by decide +kernel
theorem dX9_common_64 : decode cX9_common 64 = .ok (.iload 6, 2) := by decide +kernel
theorem dX9_common_66 : decode cX9_common 66 = .ok (.iaload, 1) := by decide +kernel
theorem dX9_common_67 : decode cX9_common 67 = .ok (.ifCond .eq 78, 3) := by decide +kernel
theorem dX9_common_70 : decode cX9_common 70 = .ok (.aload_n 0, 1) := by decide +kernel
theorem dX9_common_71 : decode cX9_common 71 = .ok (.iload 5, 2) := by decide +kernel
theorem dX9_common_73 : decode cX9_common 73 = .ok (.iload 6, 2) := by decide +kernel
theorem dX9_common_75 : decode cX9_common 75 = .ok (.invokevirtual 146, 3) := by decide +kernel
theorem dX9_common_78 : decode cX9_common 78 = .ok (.aload_n 0, 1) := by decide +kernel
theorem dX9_common_79 : decode cX9_common 79 = .ok (.getfield 8, 3) := by decide +kernel
theorem dX9_common_82 : decode cX9_common 82 = .ok (.iload 7, 2) := by decide +kernel
theorem dX9_common_84 : decode cX9_common 84 = .ok (.aload_n 0, 1) := by decide +kernel
theorem dX9_common_85 : decode cX9_common 85 = .ok (.getfield 128, 3) := by decide +kernel
theorem dX9_common_88 : decode cX9_common 88 = .ok (.iastore, 1) := by decide +kernel
theorem dX9_common_89 : decode cX9_common 89 = .ok (.iconst 0, 1) := by decide +kernel
theorem dX9_common_90 : decode cX9_common 90 = .ok (.istore 8, 2) := by decide +kernel
theorem dX9_common_92 : decode cX9_common 92 = .ok (.iload 8, 2) := by decide +kernel
theorem dX9_common_94 : decode cX9_common 94 = .ok (.aload_n 0, 1) := by decide +kernel
theorem dX9_common_95 : decode cX9_common 95 = .ok (.getfield 128, 3) := by decide +kernel
theorem dX9_common_98 : decode cX9_common 98 = .ok (.if_icmp .ge 28, 3) := by decide +kernel
theorem dX9_common_101 : decode cX9_common 101 = .ok (.aload_n 0, 1) := by decide +kernel
theorem dX9_common_102 : decode cX9_common 102 = .ok (.getfield 8, 3) := by decide +kernel
theorem dX9_common_105 : decode cX9_common 105 = .ok (.iload 7, 2) := by decide +kernel
theorem dX9_common_107 : decode cX9_common 107 = .ok (.iconst 1, 1) := by decide +kernel
theorem dX9_common_108 : decode cX9_common 108 = .ok (.iadd, 1) := by decide +kernel
theorem dX9_common_109 : decode cX9_common 109 = .ok (.iload 8, 2) := by decide +kernel
theorem dX9_common_111 : decode cX9_common 111 = .ok (.iadd, 1) := by decide +kernel
theorem dX9_common_112 : decode cX9_common 112 = .ok (.aload_n 0, 1) := by decide +kernel
theorem dX9_common_113 : decode cX9_common 113 = .ok (.getfield 14, 3) := by decide +kernel
theorem dX9_common_116 : decode cX9_common 116 = .ok (.iload 8, 2) := by decide +kernel
theorem dX9_common_118 : decode cX9_common 118 = .ok (.iaload, 1) := by decide +kernel
theorem dX9_common_119 : decode cX9_common 119 = .ok (.iastore, 1) := by decide +kernel
theorem dX9_common_120 : decode cX9_common 120 = .ok (.iinc 8 1, 3) := by decide +kernel
theorem dX9_common_123 : decode cX9_common 123 = .ok (.goto (-31), 3) := by decide +kernel
theorem dX9_common_126 : decode cX9_common 126 = .ok (.iload 5, 2) := by decide +kernel
theorem dX9_common_128 : decode cX9_common 128 = .ok (.istore 8, 2) := by decide +kernel
theorem dX9_common_130 : decode cX9_common 130 = .ok (.iload 6, 2) := by decide +kernel
theorem dX9_common_132 : decode cX9_common 132 = .ok (.istore 5, 2) := by decide +kernel
theorem dX9_common_134 : decode cX9_common 134 = .ok (.iload 7, 2) := by decide +kernel
theorem dX9_common_136 : decode cX9_common 136 = .ok (.istore 6, 2) := by decide +kernel
theorem dX9_common_138 : decode cX9_common 138 = .ok (.iload 8, 2) := by decide +kernel
theorem dX9_common_140 : decode cX9_common 140 = .ok (.istore 7, 2) := by decide +kernel
theorem dX9_common_142 : decode cX9_common 142 = .ok (.goto (-82), 3) := by decide +kernel
theorem dX9_common_145 : decode cX9_common 145 = .ok (.aload_n 0, 1) := by decide +kernel
theorem dX9_common_146 : decode cX9_common 146 = .ok (.getfield 8, 3) := by decide +kernel
theorem dX9_common_149 : decode cX9_common 149 = .ok (.iload 5, 2) := by decide +kernel
theorem dX9_common_151 : decode cX9_common 151 = .ok (.iaload, 1) := by decide +kernel
theorem dX9_common_152 : decode cX9_common 152 = .ok (.istore 8, 2) := by decide +kernel
theorem dX9_common_154 : decode cX9_common 154 = .ok (.iconst 0, 1) := by decide +kernel
theorem dX9_common_155 : decode cX9_common 155 = .ok (.istore 9, 2) := by decide +kernel
theorem dX9_common_157 : decode cX9_common 157 = .ok (.iload 9, 2) := by decide +kernel
theorem dX9_common_159 : decode cX9_common 159 = .ok (.iload 8, 2) := by decide +kernel
theorem dX9_common_161 : decode cX9_common 161 = .ok (.if_icmp .gt 28, 3) := by decide +kernel
theorem dX9_common_164 : decode cX9_common 164 = .ok (.aload_n 0, 1) := by decide +kernel
theorem dX9_common_165 : decode cX9_common 165 = .ok (.getfield 8, 3) := by decide +kernel
theorem dX9_common_168 : decode cX9_common 168 = .ok (.iload_n 3, 1) := by decide +kernel
theorem dX9_common_169 : decode cX9_common 169 = .ok (.iload 9, 2) := by decide +kernel
theorem dX9_common_171 : decode cX9_common 171 = .ok (.iadd, 1) := by decide +kernel
theorem dX9_common_172 : decode cX9_common 172 = .ok (.aload_n 0, 1) := by decide +kernel
theorem dX9_common_173 : decode cX9_common 173 = .ok (.getfield 8, 3) := by decide +kernel
theorem dX9_common_176 : decode cX9_common 176 = .ok (.iload 5, 2) := by decide +kernel
theorem dX9_common_178 : decode cX9_common 178 = .ok (.iload 9, 2) := by decide +kernel
theorem dX9_common_180 : decode cX9_common 180 = .ok (.iadd, 1) := by decide +kernel
theorem dX9_common_181 : decode cX9_common 181 = .ok (.iaload, 1) := by decide +kernel
theorem dX9_common_182 : decode cX9_common 182 = .ok (.iastore, 1) := by decide +kernel
theorem dX9_common_183 : decode cX9_common 183 = .ok (.iinc 9 1, 3) := by decide +kernel
theorem dX9_common_186 : decode cX9_common 186 = .ok (.goto (-29), 3) := by decide +kernel
theorem dX9_common_189 : decode cX9_common 189 = .ok (.aload_n 0, 1) := by decide +kernel
theorem dX9_common_190 : decode cX9_common 190 = .ok (.iload_n 3, 1) := by decide +kernel
theorem dX9_common_191 : decode cX9_common 191 = .ok (.iload 8, 2) := by decide +kernel
theorem dX9_common_193 : decode cX9_common 193 = .ok (.iadd, 1) := by decide +kernel
theorem dX9_common_194 : decode cX9_common 194 = .ok (.iconst 1, 1) := by decide +kernel
theorem dX9_common_195 : decode cX9_common 195 = .ok (.iadd, 1) := by decide +kernel
theorem dX9_common_196 : decode cX9_common 196 = .ok (.putfield 86, 3) := by decide +kernel
theorem dX9_common_199 : decode cX9_common 199 = .ok (.iload_n 3, 1) := by decide +kernel
theorem dX9_common_200 : decode cX9_common 200 = .ok (.ireturn, 1) := by decide +kernel
theorem dX9_putOff_0 : decode cX9_putOff 0 = .ok (.aload_n 0, 1) := by decide +kernel
theorem dX9_putOff_1 : decode cX9_putOff 1 = .ok (.iload_n 2, 1) := by decide +kernel
theorem dX9_putOff_2 : decode cX9_putOff 2 = .ok (.invokevirtual 99, 3) := by decide +kernel
theorem dX9_putOff_5 : decode cX9_putOff 5 = .ok (.istore_n 3, 1) := by decide +kernel
theorem dX9_putOff_6 : decode cX9_putOff 6 = .ok (.aload_n 0, 1) := by decide +kernel
theorem dX9_putOff_7 : decode cX9_putOff 7 = .ok (.getfield 8, 3) := by decide +kernel
theorem dX9_putOff_10 : decode cX9_putOff 10 = .ok (.iload_n 1, 1) := by decide +kernel
theorem dX9_putOff_11 : decode cX9_putOff 11 = .ok (.iload_n 3, 1) := by decide +kernel
theorem dX9_putOff_12 : decode cX9_putOff 12 = .ok (.iastore, 1) := by decide +kernel
theorem dX9_putOff_13 : decode cX9_putOff 13 = .ok (.iconst 1, 1) := by decide +kernel
theorem dX9_putOff_14 : decode cX9_putOff 14 = .ok (.istore 4, 2) := by decide +kernel
theorem dX9_putOff_16 : decode cX9_putOff 16 = .ok (.iload 4, 2) := by decide +kernel
theorem dX9_putOff_18 : decode cX9_putOff 18 = .ok (.iload_n 3, 1) := by decide +kernel
theorem dX9_putOff_19 : decode cX9_putOff 19 = .ok (.if_icmp .gt 27, 3) := by decide +kernel
theorem dX9_putOff_22 : decode cX9_putOff 22 = .ok (.aload_n 0, 1) := by decide +kernel
theorem dX9_putOff_23 : decode cX9_putOff 23 = .ok (.getfield 8, 3) := by decide +kernel
theorem dX9_putOff_26 : decode cX9_putOff 26 = .ok (.iload_n 1, 1) := by decide +kernel
theorem dX9_putOff_27 : decode cX9_putOff 27 = .ok (.iload 4, 2) := by decide +kernel
theorem dX9_putOff_29 : decode cX9_putOff 29 = .ok (.iadd, 1) := by decide +kernel
theorem dX9_putOff_30 : decode cX9_putOff 30 = .ok (.aload_n 0, 1) := by decide +kernel
theorem dX9_putOff_31 : decode cX9_putOff 31 = .ok (.getfield 8, 3) := by decide +kernel
theorem dX9_putOff_34 : decode cX9_putOff 34 = .ok (.iload_n 2, 1) := by decide +kernel
theorem dX9_putOff_35 : decode cX9_putOff 35 = .ok (.iload 4, 2) := by decide +kernel
theorem dX9_putOff_37 : decode cX9_putOff 37 = .ok (.iadd, 1) := by decide +kernel
theorem dX9_putOff_38 : decode cX9_putOff 38 = .ok (.iaload, 1) := by decide +kernel
theorem dX9_putOff_39 : decode cX9_putOff 39 = .ok (.iastore, 1) := by decide +kernel
theorem dX9_putOff_40 : decode cX9_putOff 40 = .ok (.iinc 4 1, 3) := by decide +kernel
theorem dX9_putOff_43 : decode cX9_putOff 43 = .ok (.goto (-27), 3) := by decide +kernel
theorem dX9_putOff_46 : decode cX9_putOff 46 = .ok (.return_, 1) := by decide +kernel
theorem dX9_out_0 : decode cX9_out 0 = .ok (.iload_n 1, 1) := by decide +kernel
theorem dX9_out_1 : decode cX9_out 1 = .ok (.ifCond .lt 20, 3) := by decide +kernel
theorem dX9_out_4 : decode cX9_out 4 = .ok (.iload_n 1, 1) := by decide +kernel
theorem dX9_out_5 : decode cX9_out 5 = .ok (.aload_n 0, 1) := by decide +kernel
theorem dX9_out_6 : decode cX9_out 6 = .ok (.getfield 153, 3) := by decide +kernel
theorem dX9_out_9 : decode cX9_out 9 = .ok (.if_icmp .ge 12, 3) := by decide +kernel
theorem dX9_out_12 : decode cX9_out 12 = .ok (.aload_n 0, 1) := by decide +kernel
theorem dX9_out_13 : decode cX9_out 13 = .ok (.getfield 23, 3) := by decide +kernel
theorem dX9_out_16 : decode cX9_out 16 = .ok (.iload_n 1, 1) := by decide +kernel
theorem dX9_out_17 : decode cX9_out 17 = .ok (.iaload, 1) := by decide +kernel
theorem dX9_out_18 : decode cX9_out 18 = .ok (.goto 4, 3) := by decide +kernel
theorem dX9_out_21 : decode cX9_out 21 = .ok (.iconst (-1), 1) := by decide +kernel
theorem dX9_out_22 : decode cX9_out 22 = .ok (.ireturn, 1) := by decide +kernel
theorem dX9_tells0_0 : decode cX9_tells0 0 = .ok (.aload_n 0, 1) := by decide +kernel
theorem dX9_tells0_1 : decode cX9_tells0 1 = .ok (.getfield 23, 3) := by decide +kernel
theorem dX9_tells0_4 : decode cX9_tells0 4 = .ok (.aload_n 0, 1) := by decide +kernel
theorem dX9_tells0_5 : decode cX9_tells0 5 = .ok (.getfield 153, 3) := by decide +kernel
theorem dX9_tells0_8 : decode cX9_tells0 8 = .ok (.iload_n 1, 1) := by decide +kernel
theorem dX9_tells0_9 : decode cX9_tells0 9 = .ok (.iastore, 1) := by decide +kernel
theorem dX9_tells0_10 : decode cX9_tells0 10 = .ok (.aload_n 0, 1) := by decide +kernel
theorem dX9_tells0_11 : decode cX9_tells0 11 = .ok (.dup, 1) := by decide +kernel
theorem dX9_tells0_12 : decode cX9_tells0 12 = .ok (.getfield 153, 3) := by decide +kernel
theorem dX9_tells0_15 : decode cX9_tells0 15 = .ok (.iconst 1, 1) := by decide +kernel
theorem dX9_tells0_16 : decode cX9_tells0 16 = .ok (.iadd, 1) := by decide +kernel
theorem dX9_tells0_17 : decode cX9_tells0 17 = .ok (.putfield 153, 3) := by decide +kernel
theorem dX9_tells0_20 : decode cX9_tells0 20 = .ok (.return_, 1) := by decide +kernel
theorem dX9_tellsNumber_0 : decode cX9_tellsNumber 0 = .ok (.aload_n 0, 1) := by decide +kernel
theorem dX9_tellsNumber_1 : decode cX9_tellsNumber 1 = .ok (.iload_n 1, 1) := by decide +kernel
theorem dX9_tellsNumber_2 : decode cX9_tellsNumber 2 = .ok (.invokevirtual 105, 3) := by decide +kernel
theorem dX9_tellsNumber_5 : decode cX9_tellsNumber 5 = .ok (.ifCond .ge 9, 3) := by decide +kernel
theorem dX9_tellsNumber_8 : decode cX9_tellsNumber 8 = .ok (.aload_n 0, 1) := by decide +kernel
theorem dX9_tellsNumber_9 : decode cX9_tellsNumber 9 = .ok (.bipush 45, 2) := by decide +kernel
theorem dX9_tellsNumber_11 : decode cX9_tellsNumber 11 = .ok (.invokevirtual 156, 3) := by decide +kernel
theorem dX9_tellsNumber_14 : decode cX9_tellsNumber 14 = .ok (.aload_n 0, 1) := by decide +kernel
theorem dX9_tellsNumber_15 : decode cX9_tellsNumber 15 = .ok (.iload_n 1, 1) := by decide +kernel
theorem dX9_tellsNumber_16 : decode cX9_tellsNumber 16 = .ok (.invokevirtual 105, 3) := by decide +kernel
theorem dX9_tellsNumber_19 : decode cX9_tellsNumber 19 = .ok (.ifCond .ne 9, 3) := by decide +kernel
theorem dX9_tellsNumber_22 : decode cX9_tellsNumber 22 = .ok (.aload_n 0, 1) := by decide +kernel
theorem dX9_tellsNumber_23 : decode cX9_tellsNumber 23 = .ok (.bipush 48, 2) := by decide +kernel
theorem dX9_tellsNumber_25 : decode cX9_tellsNumber 25 = .ok (.invokevirtual 156, 3) := by decide +kernel
theorem dX9_tellsNumber_28 : decode cX9_tellsNumber 28 = .ok (.aload_n 0, 1) := by decide +kernel
theorem dX9_tellsNumber_29 : decode cX9_tellsNumber 29 = .ok (.getfield 153, 3) := by decide +kernel
theorem dX9_tellsNumber_32 : decode cX9_tellsNumber 32 = .ok (.istore_n 2, 1) := by decide +kernel
theorem dX9_tellsNumber_33 : decode cX9_tellsNumber 33 = .ok (.iconst 0, 1) := by decide +kernel
theorem dX9_tellsNumber_34 : decode cX9_tellsNumber 34 = .ok (.istore_n 3, 1) := by decide +kernel
theorem dX9_tellsNumber_35 : decode cX9_tellsNumber 35 = .ok (.iload_n 3, 1) := by decide +kernel
theorem dX9_tellsNumber_36 : decode cX9_tellsNumber 36 = .ok (.aload_n 0, 1) := by decide +kernel
theorem dX9_tellsNumber_37 : decode cX9_tellsNumber 37 = .ok (.iload_n 1, 1) := by decide +kernel
theorem dX9_tellsNumber_38 : decode cX9_tellsNumber 38 = .ok (.invokevirtual 99, 3) := by decide +kernel
theorem dX9_tellsNumber_41 : decode cX9_tellsNumber 41 = .ok (.if_icmp .ge 25, 3) := by decide +kernel
theorem dX9_tellsNumber_44 : decode cX9_tellsNumber 44 = .ok (.aload_n 0, 1) := by decide +kernel
theorem dX9_tellsNumber_45 : decode cX9_tellsNumber 45 = .ok (.getfield 14, 3) := by decide +kernel
theorem dX9_tellsNumber_48 : decode cX9_tellsNumber 48 = .ok (.iload_n 3, 1) := by decide +kernel
theorem dX9_tellsNumber_49 : decode cX9_tellsNumber 49 = .ok (.aload_n 0, 1) := by decide +kernel
theorem dX9_tellsNumber_50 : decode cX9_tellsNumber 50 = .ok (.getfield 8, 3) := by decide +kernel
theorem dX9_tellsNumber_53 : decode cX9_tellsNumber 53 = .ok (.iload_n 1, 1) := by decide +kernel
theorem dX9_tellsNumber_54 : decode cX9_tellsNumber 54 = .ok (.iconst 1, 1) := by decide +kernel
theorem dX9_tellsNumber_55 : decode cX9_tellsNumber 55 = .ok (.iadd, 1) := by decide +kernel
theorem dX9_tellsNumber_56 : decode cX9_tellsNumber 56 = .ok (.iload_n 3, 1) := by decide +kernel
theorem dX9_tellsNumber_57 : decode cX9_tellsNumber 57 = .ok (.iadd, 1) := by decide +kernel
theorem dX9_tellsNumber_58 : decode cX9_tellsNumber 58 = .ok (.iaload, 1) := by decide +kernel
theorem dX9_tellsNumber_59 : decode cX9_tellsNumber 59 = .ok (.iastore, 1) := by decide +kernel
theorem dX9_tellsNumber_60 : decode cX9_tellsNumber 60 = .ok (.iinc 3 1, 3) := by decide +kernel
theorem dX9_tellsNumber_63 : decode cX9_tellsNumber 63 = .ok (.goto (-28), 3) := by decide +kernel
theorem dX9_tellsNumber_66 : decode cX9_tellsNumber 66 = .ok (.aload_n 0, 1) := by decide +kernel
theorem dX9_tellsNumber_67 : decode cX9_tellsNumber 67 = .ok (.aload_n 0, 1) := by decide +kernel
theorem dX9_tellsNumber_68 : decode cX9_tellsNumber 68 = .ok (.iload_n 1, 1) := by decide +kernel
theorem dX9_tellsNumber_69 : decode cX9_tellsNumber 69 = .ok (.invokevirtual 99, 3) := by decide +kernel
theorem dX9_tellsNumber_72 : decode cX9_tellsNumber 72 = .ok (.putfield 128, 3) := by decide +kernel
theorem dX9_tellsNumber_75 : decode cX9_tellsNumber 75 = .ok (.aload_n 0, 1) := by decide +kernel
theorem dX9_tellsNumber_76 : decode cX9_tellsNumber 76 = .ok (.getfield 128, 3) := by decide +kernel
theorem dX9_tellsNumber_79 : decode cX9_tellsNumber 79 = .ok (.ifCond .le 106, 3) := by decide +kernel
theorem dX9_tellsNumber_82 : decode cX9_tellsNumber 82 = .ok (.lconst 0, 1) := by decide +kernel
theorem dX9_tellsNumber_83 : decode cX9_tellsNumber 83 = .ok (.lstore_n 3, 1) := by decide +kernel
theorem dX9_tellsNumber_84 : decode cX9_tellsNumber 84 = .ok (.aload_n 0, 1) := by decide +kernel
theorem dX9_tellsNumber_85 : decode cX9_tellsNumber 85 = .ok (.getfield 128, 3) := by decide +kernel
theorem dX9_tellsNumber_88 : decode cX9_tellsNumber 88 = .ok (.iconst 1, 1) := by decide +kernel
theorem dX9_tellsNumber_89 : decode cX9_tellsNumber 89 = .ok (.isub, 1) := by decide +kernel
theorem dX9_tellsNumber_90 : decode cX9_tellsNumber 90 = .ok (.istore 5, 2) := by decide +kernel
theorem dX9_tellsNumber_92 : decode cX9_tellsNumber 92 = .ok (.iload 5, 2) := by decide +kernel
theorem dX9_tellsNumber_94 : decode cX9_tellsNumber 94 = .ok (.ifCond .lt 45, 3) := by decide +kernel
theorem dX9_tellsNumber_97 : decode cX9_tellsNumber 97 = .ok (.lload_n 3, 1) := by decide +kernel
theorem dX9_tellsNumber_98 : decode cX9_tellsNumber 98 = .ok (.bipush 30, 2) := by decide +kernel
theorem dX9_tellsNumber_100 : decode cX9_tellsNumber 100 = .ok (.lshl, 1) := by decide +kernel
theorem dX9_tellsNumber_101 : decode cX9_tellsNumber 101 = .ok (.aload_n 0, 1) := by decide +kernel
theorem dX9_tellsNumber_102 : decode cX9_tellsNumber 102 = .ok (.getfield 14, 3) := by decide +kernel
theorem dX9_tellsNumber_105 : decode cX9_tellsNumber 105 = .ok (.iload 5, 2) := by decide +kernel
theorem dX9_tellsNumber_107 : decode cX9_tellsNumber 107 = .ok (.iaload, 1) := by decide +kernel
theorem dX9_tellsNumber_108 : decode cX9_tellsNumber 108 = .ok (.i2l, 1) := by decide +kernel
theorem dX9_tellsNumber_109 : decode cX9_tellsNumber 109 = .ok (.lor, 1) := by decide +kernel
theorem dX9_tellsNumber_110 : decode cX9_tellsNumber 110 = .ok (.lstore 6, 2) := by decide +kernel
theorem dX9_tellsNumber_112 : decode cX9_tellsNumber 112 = .ok (.aload_n 0, 1) := by decide +kernel
theorem dX9_tellsNumber_113 : decode cX9_tellsNumber 113 = .ok (.getfield 14, 3) := by decide +kernel
theorem dX9_tellsNumber_116 : decode cX9_tellsNumber 116 = .ok (.iload 5, 2) := by decide +kernel
theorem dX9_tellsNumber_118 : decode cX9_tellsNumber 118 = .ok (.lload 6, 2) := by decide +kernel
theorem dX9_tellsNumber_120 : decode cX9_tellsNumber 120 = .ok (.ldc2_w 159, 3) := by decide +kernel
theorem dX9_tellsNumber_123 : decode cX9_tellsNumber 123 = .ok (.ldiv, 1) := by decide +kernel
theorem dX9_tellsNumber_124 : decode cX9_tellsNumber 124 = .ok (.l2i, 1) := by decide +kernel
theorem dX9_tellsNumber_125 : decode cX9_tellsNumber 125 = .ok (.iastore, 1) := by decide +kernel
theorem dX9_tellsNumber_126 : decode cX9_tellsNumber 126 = .ok (.lload 6, 2) := by decide +kernel
theorem dX9_tellsNumber_128 : decode cX9_tellsNumber 128 = .ok (.ldc2_w 159, 3) := by decide +kernel
theorem dX9_tellsNumber_131 : decode cX9_tellsNumber 131 = .ok (.lrem, 1) := by decide +kernel
theorem dX9_tellsNumber_132 : decode cX9_tellsNumber 132 = .ok (.lstore_n 3, 1) := by decide +kernel
theorem dX9_tellsNumber_133 : decode cX9_tellsNumber 133 = .ok (.iinc 5 (-1), 3) := by decide +kernel
theorem dX9_tellsNumber_136 : decode cX9_tellsNumber 136 = .ok (.goto (-44), 3) := by decide +kernel
theorem dX9_tellsNumber_139 : decode cX9_tellsNumber 139 = .ok (.aload_n 0, 1) := by decide +kernel
theorem dX9_tellsNumber_140 : decode cX9_tellsNumber 140 = .ok (.getfield 128, 3) := by decide +kernel
theorem dX9_tellsNumber_143 : decode cX9_tellsNumber 143 = .ok (.ifCond .le 30, 3) := by decide +kernel
theorem dX9_tellsNumber_146 : decode cX9_tellsNumber 146 = .ok (.aload_n 0, 1) := by decide +kernel
theorem dX9_tellsNumber_147 : decode cX9_tellsNumber 147 = .ok (.getfield 14, 3) := by decide +kernel
theorem dX9_tellsNumber_150 : decode cX9_tellsNumber 150 = .ok (.aload_n 0, 1) := by decide +kernel
theorem dX9_tellsNumber_151 : decode cX9_tellsNumber 151 = .ok (.getfield 128, 3) := by decide +kernel
theorem dX9_tellsNumber_154 : decode cX9_tellsNumber 154 = .ok (.iconst 1, 1) := by decide +kernel
theorem dX9_tellsNumber_155 : decode cX9_tellsNumber 155 = .ok (.isub, 1) := by decide +kernel
theorem dX9_tellsNumber_156 : decode cX9_tellsNumber 156 = .ok (.iaload, 1) := by decide +kernel
theorem dX9_tellsNumber_157 : decode cX9_tellsNumber 157 = .ok (.ifCond .ne 16, 3) := by decide +kernel
theorem dX9_tellsNumber_160 : decode cX9_tellsNumber 160 = .ok (.aload_n 0, 1) := by decide +kernel
theorem dX9_tellsNumber_161 : decode cX9_tellsNumber 161 = .ok (.dup, 1) := by decide +kernel
theorem dX9_tellsNumber_162 : decode cX9_tellsNumber 162 = .ok (.getfield 128, 3) := by decide +kernel
theorem dX9_tellsNumber_165 : decode cX9_tellsNumber 165 = .ok (.iconst 1, 1) := by decide +kernel
theorem dX9_tellsNumber_166 : decode cX9_tellsNumber 166 = .ok (.isub, 1) := by decide +kernel
theorem dX9_tellsNumber_167 : decode cX9_tellsNumber 167 = .ok (.putfield 128, 3) := by decide +kernel
theorem dX9_tellsNumber_170 : decode cX9_tellsNumber 170 = .ok (.goto (-31), 3) := by decide +kernel
theorem dX9_tellsNumber_173 : decode cX9_tellsNumber 173 = .ok (.aload_n 0, 1) := by decide +kernel
theorem dX9_tellsNumber_174 : decode cX9_tellsNumber 174 = .ok (.bipush 48, 2) := by decide +kernel
theorem dX9_tellsNumber_176 : decode cX9_tellsNumber 176 = .ok (.lload_n 3, 1) := by decide +kernel
theorem dX9_tellsNumber_177 : decode cX9_tellsNumber 177 = .ok (.l2i, 1) := by decide +kernel
theorem dX9_tellsNumber_178 : decode cX9_tellsNumber 178 = .ok (.iadd, 1) := by decide +kernel
theorem dX9_tellsNumber_179 : decode cX9_tellsNumber 179 = .ok (.invokevirtual 156, 3) := by decide +kernel
theorem dX9_tellsNumber_182 : decode cX9_tellsNumber 182 = .ok (.goto (-107), 3) := by decide +kernel
theorem dX9_tellsNumber_185 : decode cX9_tellsNumber 185 = .ok (.iload_n 2, 1) := by decide +kernel
theorem dX9_tellsNumber_186 : decode cX9_tellsNumber 186 = .ok (.istore_n 3, 1) := by decide +kernel
theorem dX9_tellsNumber_187 : decode cX9_tellsNumber 187 = .ok (.aload_n 0, 1) := by decide +kernel
theorem dX9_tellsNumber_188 : decode cX9_tellsNumber 188 = .ok (.getfield 153, 3) := by decide +kernel
theorem dX9_tellsNumber_191 : decode cX9_tellsNumber 191 = .ok (.iconst 1, 1) := by decide +kernel
theorem dX9_tellsNumber_192 : decode cX9_tellsNumber 192 = .ok (.isub, 1) := by decide +kernel
theorem dX9_tellsNumber_193 : decode cX9_tellsNumber 193 = .ok (.istore 4, 2) := by decide +kernel
theorem dX9_tellsNumber_195 : decode cX9_tellsNumber 195 = .ok (.iload_n 3, 1) := by decide +kernel
theorem dX9_tellsNumber_196 : decode cX9_tellsNumber 196 = .ok (.iload 4, 2) := by decide +kernel
theorem dX9_tellsNumber_198 : decode cX9_tellsNumber 198 = .ok (.if_icmp .ge 42, 3) := by decide +kernel
theorem dX9_tellsNumber_201 : decode cX9_tellsNumber 201 = .ok (.aload_n 0, 1) := by decide +kernel
theorem dX9_tellsNumber_202 : decode cX9_tellsNumber 202 = .ok (.getfield 23, 3) := by decide +kernel
theorem dX9_tellsNumber_205 : decode cX9_tellsNumber 205 = .ok (.iload_n 3, 1) := by decide +kernel
theorem dX9_tellsNumber_206 : decode cX9_tellsNumber 206 = .ok (.iaload, 1) := by decide +kernel
theorem dX9_tellsNumber_207 : decode cX9_tellsNumber 207 = .ok (.istore 5, 2) := by decide +kernel
theorem dX9_tellsNumber_209 : decode cX9_tellsNumber 209 = .ok (.aload_n 0, 1) := by decide +kernel
theorem dX9_tellsNumber_210 : decode cX9_tellsNumber 210 = .ok (.getfield 23, 3) := by decide +kernel
theorem dX9_tellsNumber_213 : decode cX9_tellsNumber 213 = .ok (.iload_n 3, 1) := by decide +kernel
theorem dX9_tellsNumber_214 : decode cX9_tellsNumber 214 = .ok (.aload_n 0, 1) := by decide +kernel
theorem dX9_tellsNumber_215 : decode cX9_tellsNumber 215 = .ok (.getfield 23, 3) := by decide +kernel
theorem dX9_tellsNumber_218 : decode cX9_tellsNumber 218 = .ok (.iload 4, 2) := by decide +kernel
theorem dX9_tellsNumber_220 : decode cX9_tellsNumber 220 = .ok (.iaload, 1) := by decide +kernel
theorem dX9_tellsNumber_221 : decode cX9_tellsNumber 221 = .ok (.iastore, 1) := by decide +kernel
theorem dX9_tellsNumber_222 : decode cX9_tellsNumber 222 = .ok (.aload_n 0, 1) := by decide +kernel
theorem dX9_tellsNumber_223 : decode cX9_tellsNumber 223 = .ok (.getfield 23, 3) := by decide +kernel
theorem dX9_tellsNumber_226 : decode cX9_tellsNumber 226 = .ok (.iload 4, 2) := by decide +kernel
theorem dX9_tellsNumber_228 : decode cX9_tellsNumber 228 = .ok (.iload 5, 2) := by decide +kernel
theorem dX9_tellsNumber_230 : decode cX9_tellsNumber 230 = .ok (.iastore, 1) := by decide +kernel
theorem dX9_tellsNumber_231 : decode cX9_tellsNumber 231 = .ok (.iinc 3 1, 3) := by decide +kernel
theorem dX9_tellsNumber_234 : decode cX9_tellsNumber 234 = .ok (.iinc 4 (-1), 3) := by decide +kernel
theorem dX9_tellsNumber_237 : decode cX9_tellsNumber 237 = .ok (.goto (-42), 3) := by decide +kernel
theorem dX9_tellsNumber_240 : decode cX9_tellsNumber 240 = .ok (.return_, 1) := by decide +kernel
theorem dX9_tells_0 : decode cX9_tells 0 = .ok (.aload_n 0, 1) := by decide +kernel
theorem dX9_tells_1 : decode cX9_tells 1 = .ok (.iload_n 1, 1) := by decide +kernel
theorem dX9_tells_2 : decode cX9_tells 2 = .ok (.iload_n 2, 1) := by decide +kernel
theorem dX9_tells_3 : decode cX9_tells 3 = .ok (.invokevirtual 161, 3) := by decide +kernel
theorem dX9_tells_6 : decode cX9_tells 6 = .ok (.istore_n 3, 1) := by decide +kernel
theorem dX9_tells_7 : decode cX9_tells 7 = .ok (.aload_n 0, 1) := by decide +kernel
theorem dX9_tells_8 : decode cX9_tells 8 = .ok (.iload_n 1, 1) := by decide +kernel
theorem dX9_tells_9 : decode cX9_tells 9 = .ok (.iload_n 3, 1) := by decide +kernel
theorem dX9_tells_10 : decode cX9_tells 10 = .ok (.invokevirtual 164, 3) := by decide +kernel
theorem dX9_tells_13 : decode cX9_tells 13 = .ok (.istore 4, 2) := by decide +kernel
theorem dX9_tells_15 : decode cX9_tells 15 = .ok (.aload_n 0, 1) := by decide +kernel
theorem dX9_tells_16 : decode cX9_tells 16 = .ok (.iload_n 2, 1) := by decide +kernel
theorem dX9_tells_17 : decode cX9_tells 17 = .ok (.iload_n 3, 1) := by decide +kernel
theorem dX9_tells_18 : decode cX9_tells 18 = .ok (.invokevirtual 164, 3) := by decide +kernel
theorem dX9_tells_21 : decode cX9_tells 21 = .ok (.istore 5, 2) := by decide +kernel
theorem dX9_tells_23 : decode cX9_tells 23 = .ok (.aload_n 0, 1) := by decide +kernel
theorem dX9_tells_24 : decode cX9_tells 24 = .ok (.iconst 0, 1) := by decide +kernel
theorem dX9_tells_25 : decode cX9_tells 25 = .ok (.putfield 153, 3) := by decide +kernel
theorem dX9_tells_28 : decode cX9_tells 28 = .ok (.aload_n 0, 1) := by decide +kernel
theorem dX9_tells_29 : decode cX9_tells 29 = .ok (.aload_n 0, 1) := by decide +kernel
theorem dX9_tells_30 : decode cX9_tells 30 = .ok (.iload 5, 2) := by decide +kernel
theorem dX9_tells_32 : decode cX9_tells 32 = .ok (.invokevirtual 105, 3) := by decide +kernel
theorem dX9_tells_35 : decode cX9_tells 35 = .ok (.ifCond .ge 12, 3) := by decide +kernel
theorem dX9_tells_38 : decode cX9_tells 38 = .ok (.aload_n 0, 1) := by decide +kernel
theorem dX9_tells_39 : decode cX9_tells 39 = .ok (.iload 4, 2) := by decide +kernel
theorem dX9_tells_41 : decode cX9_tells 41 = .ok (.invokevirtual 122, 3) := by decide +kernel
theorem dX9_tells_44 : decode cX9_tells 44 = .ok (.goto 5, 3) := by decide +kernel
theorem dX9_tells_47 : decode cX9_tells 47 = .ok (.iload 4, 2) := by decide +kernel
theorem dX9_tells_49 : decode cX9_tells 49 = .ok (.invokevirtual 167, 3) := by decide +kernel
theorem dX9_tells_52 : decode cX9_tells 52 = .ok (.aload_n 0, 1) := by decide +kernel
theorem dX9_tells_53 : decode cX9_tells 53 = .ok (.bipush 47, 2) := by decide +kernel
theorem dX9_tells_55 : decode cX9_tells 55 = .ok (.invokevirtual 156, 3) := by decide +kernel
theorem dX9_tells_58 : decode cX9_tells 58 = .ok (.aload_n 0, 1) := by decide +kernel
theorem dX9_tells_59 : decode cX9_tells 59 = .ok (.aload_n 0, 1) := by decide +kernel
theorem dX9_tells_60 : decode cX9_tells 60 = .ok (.iload 5, 2) := by decide +kernel
theorem dX9_tells_62 : decode cX9_tells 62 = .ok (.invokevirtual 105, 3) := by decide +kernel
theorem dX9_tells_65 : decode cX9_tells 65 = .ok (.ifCond .ge 12, 3) := by decide +kernel
theorem dX9_tells_68 : decode cX9_tells 68 = .ok (.aload_n 0, 1) := by decide +kernel
theorem dX9_tells_69 : decode cX9_tells 69 = .ok (.iload 5, 2) := by decide +kernel
theorem dX9_tells_71 : decode cX9_tells 71 = .ok (.invokevirtual 122, 3) := by decide +kernel
theorem dX9_tells_74 : decode cX9_tells 74 = .ok (.goto 5, 3) := by decide +kernel
theorem dX9_tells_77 : decode cX9_tells 77 = .ok (.iload 5, 2) := by decide +kernel
theorem dX9_tells_79 : decode cX9_tells 79 = .ok (.invokevirtual 167, 3) := by decide +kernel
theorem dX9_tells_82 : decode cX9_tells 82 = .ok (.aload_n 0, 1) := by decide +kernel
theorem dX9_tells_83 : decode cX9_tells 83 = .ok (.iconst 0, 1) := by decide +kernel
theorem dX9_tells_84 : decode cX9_tells 84 = .ok (.putfield 82, 3) := by decide +kernel
theorem dX9_tells_87 : decode cX9_tells 87 = .ok (.aload_n 0, 1) := by decide +kernel
theorem dX9_tells_88 : decode cX9_tells 88 = .ok (.getfield 153, 3) := by decide +kernel
theorem dX9_tells_91 : decode cX9_tells 91 = .ok (.ireturn, 1) := by decide +kernel
theorem dX9_isRow_0 : decode cX9_isRow 0 = .ok (.iload_n 0, 1) := by decide +kernel
theorem dX9_isRow_1 : decode cX9_isRow 1 = .ok (.ifCond .lt 12, 3) := by decide +kernel
theorem dX9_isRow_4 : decode cX9_isRow 4 = .ok (.iload_n 0, 1) := by decide +kernel
theorem dX9_isRow_5 : decode cX9_isRow 5 = .ok (.iconst 4, 1) := by decide +kernel
theorem dX9_isRow_6 : decode cX9_isRow 6 = .ok (.if_icmp .ge 7, 3) := by decide +kernel
theorem dX9_isRow_9 : decode cX9_isRow 9 = .ok (.iconst 1, 1) := by decide +kernel
theorem dX9_isRow_10 : decode cX9_isRow 10 = .ok (.goto 4, 3) := by decide +kernel
theorem dX9_isRow_13 : decode cX9_isRow 13 = .ok (.iconst 0, 1) := by decide +kernel
theorem dX9_isRow_14 : decode cX9_isRow 14 = .ok (.ireturn, 1) := by decide +kernel
theorem dX9_isTick_0 : decode cX9_isTick 0 = .ok (.iload_n 0, 1) := by decide +kernel
theorem dX9_isTick_1 : decode cX9_isTick 1 = .ok (.ifCond .lt 13, 3) := by decide +kernel
theorem dX9_isTick_4 : decode cX9_isTick 4 = .ok (.iload_n 0, 1) := by decide +kernel
theorem dX9_isTick_5 : decode cX9_isTick 5 = .ok (.bipush 40, 2) := by decide +kernel
theorem dX9_isTick_7 : decode cX9_isTick 7 = .ok (.if_icmp .ge 7, 3) := by decide +kernel
theorem dX9_isTick_10 : decode cX9_isTick 10 = .ok (.iconst 1, 1) := by decide +kernel
theorem dX9_isTick_11 : decode cX9_isTick 11 = .ok (.goto 4, 3) := by decide +kernel
theorem dX9_isTick_14 : decode cX9_isTick 14 = .ok (.iconst 0, 1) := by decide +kernel
theorem dX9_isTick_15 : decode cX9_isTick 15 = .ok (.ireturn, 1) := by decide +kernel
theorem dX9_isNumber_0 : decode cX9_isNumber 0 = .ok (.lload_n 0, 1) := by decide +kernel
theorem dX9_isNumber_1 : decode cX9_isNumber 1 = .ok (.ldc2_w 170, 3) := by decide +kernel
theorem dX9_isNumber_4 : decode cX9_isNumber 4 = .ok (.lcmp, 1) := by decide +kernel
theorem dX9_isNumber_5 : decode cX9_isNumber 5 = .ok (.ifCond .lt 15, 3) := by decide +kernel
theorem dX9_isNumber_8 : decode cX9_isNumber 8 = .ok (.lload_n 0, 1) := by decide +kernel
theorem dX9_isNumber_9 : decode cX9_isNumber 9 = .ok (.ldc2_w 172, 3) := by decide +kernel
theorem dX9_isNumber_12 : decode cX9_isNumber 12 = .ok (.lcmp, 1) := by decide +kernel
theorem dX9_isNumber_13 : decode cX9_isNumber 13 = .ok (.ifCond .gt 7, 3) := by decide +kernel
theorem dX9_isNumber_16 : decode cX9_isNumber 16 = .ok (.iconst 1, 1) := by decide +kernel
theorem dX9_isNumber_17 : decode cX9_isNumber 17 = .ok (.goto 4, 3) := by decide +kernel
theorem dX9_isNumber_20 : decode cX9_isNumber 20 = .ok (.iconst 0, 1) := by decide +kernel
theorem dX9_isNumber_21 : decode cX9_isNumber 21 = .ok (.ireturn, 1) := by decide +kernel
theorem dX9_spot_0 : decode cX9_spot 0 = .ok (.bipush 40, 2) := by decide +kernel
theorem dX9_spot_2 : decode cX9_spot 2 = .ok (.iload_n 0, 1) := by decide +kernel
theorem dX9_spot_3 : decode cX9_spot 3 = .ok (.imul, 1) := by decide +kernel
theorem dX9_spot_4 : decode cX9_spot 4 = .ok (.iload_n 1, 1) := by decide +kernel
theorem dX9_spot_5 : decode cX9_spot 5 = .ok (.iadd, 1) := by decide +kernel
theorem dX9_spot_6 : decode cX9_spot 6 = .ok (.ireturn, 1) := by decide +kernel
theorem dX9_put_0 : decode cX9_put 0 = .ok (.iload_n 1, 1) := by decide +kernel
theorem dX9_put_1 : decode cX9_put 1 = .ok (.invokestatic 174, 3) := by decide +kernel
theorem dX9_put_4 : decode cX9_put 4 = .ok (.ifCond .eq 10, 3) := by decide +kernel
theorem dX9_put_7 : decode cX9_put 7 = .ok (.iload_n 2, 1) := by decide +kernel
theorem dX9_put_8 : decode cX9_put 8 = .ok (.invokestatic 178, 3) := by decide +kernel
theorem dX9_put_11 : decode cX9_put 11 = .ok (.ifCond .ne 9, 3) := by decide +kernel
theorem dX9_put_14 : decode cX9_put 14 = .ok (.aload_n 0, 1) := by decide +kernel
theorem dX9_put_15 : decode cX9_put 15 = .ok (.iconst 1, 1) := by decide +kernel
theorem dX9_put_16 : decode cX9_put 16 = .ok (.invokevirtual 181, 3) := by decide +kernel
theorem dX9_put_19 : decode cX9_put 19 = .ok (.ireturn, 1) := by decide +kernel
theorem dX9_put_20 : decode cX9_put 20 = .ok (.iload_n 3, 1) := by decide +kernel
theorem dX9_put_21 : decode cX9_put 21 = .ok (.i2l, 1) := by decide +kernel
theorem dX9_put_22 : decode cX9_put 22 = .ok (.invokestatic 184, 3) := by decide +kernel
theorem dX9_put_25 : decode cX9_put 25 = .ok (.ifCond .ne 9, 3) := by decide +kernel
theorem dX9_put_28 : decode cX9_put 28 = .ok (.aload_n 0, 1) := by decide +kernel
theorem dX9_put_29 : decode cX9_put 29 = .ok (.iconst 2, 1) := by decide +kernel
theorem dX9_put_30 : decode cX9_put 30 = .ok (.invokevirtual 181, 3) := by decide +kernel
theorem dX9_put_33 : decode cX9_put 33 = .ok (.ireturn, 1) := by decide +kernel
theorem dX9_put_34 : decode cX9_put 34 = .ok (.aload_n 0, 1) := by decide +kernel
theorem dX9_put_35 : decode cX9_put 35 = .ok (.getfield 26, 3) := by decide +kernel
theorem dX9_put_38 : decode cX9_put 38 = .ok (.iload_n 1, 1) := by decide +kernel
theorem dX9_put_39 : decode cX9_put 39 = .ok (.iload_n 2, 1) := by decide +kernel
theorem dX9_put_40 : decode cX9_put 40 = .ok (.invokestatic 188, 3) := by decide +kernel
theorem dX9_put_43 : decode cX9_put 43 = .ok (.iload_n 3, 1) := by decide +kernel
theorem dX9_put_44 : decode cX9_put 44 = .ok (.iastore, 1) := by decide +kernel
theorem dX9_put_45 : decode cX9_put 45 = .ok (.aload_n 0, 1) := by decide +kernel
theorem dX9_put_46 : decode cX9_put 46 = .ok (.getfield 41, 3) := by decide +kernel
theorem dX9_put_49 : decode cX9_put 49 = .ok (.iload_n 1, 1) := by decide +kernel
theorem dX9_put_50 : decode cX9_put 50 = .ok (.iload_n 2, 1) := by decide +kernel
theorem dX9_put_51 : decode cX9_put 51 = .ok (.invokestatic 188, 3) := by decide +kernel
theorem dX9_put_54 : decode cX9_put 54 = .ok (.iconst 1, 1) := by decide +kernel
theorem dX9_put_55 : decode cX9_put 55 = .ok (.bastore, 1) := by decide +kernel
theorem dX9_put_56 : decode cX9_put 56 = .ok (.aload_n 0, 1) := by decide +kernel
theorem dX9_put_57 : decode cX9_put 57 = .ok (.iconst 0, 1) := by decide +kernel
theorem dX9_put_58 : decode cX9_put 58 = .ok (.invokevirtual 181, 3) := by decide +kernel
theorem dX9_put_61 : decode cX9_put 61 = .ok (.ireturn, 1) := by decide +kernel
theorem dX9_fill_0 : decode cX9_fill 0 = .ok (.iload_n 1, 1) := by decide +kernel
theorem dX9_fill_1 : decode cX9_fill 1 = .ok (.invokestatic 174, 3) := by decide +kernel
theorem dX9_fill_4 : decode cX9_fill 4 = .ok (.ifCond .eq 10, 3) := by decide +kernel
theorem dX9_fill_7 : decode cX9_fill 7 = .ok (.iload_n 2, 1) := by decide +kernel
theorem dX9_fill_8 : decode cX9_fill 8 = .ok (.invokestatic 178, 3) := by decide +kernel
theorem dX9_fill_11 : decode cX9_fill 11 = .ok (.ifCond .ne 9, 3) := by decide +kernel
theorem dX9_fill_14 : decode cX9_fill 14 = .ok (.aload_n 0, 1) := by decide +kernel
theorem dX9_fill_15 : decode cX9_fill 15 = .ok (.iconst 1, 1) := by decide +kernel
theorem dX9_fill_16 : decode cX9_fill 16 = .ok (.invokevirtual 181, 3) := by decide +kernel
theorem dX9_fill_19 : decode cX9_fill 19 = .ok (.ireturn, 1) := by decide +kernel
theorem dX9_fill_20 : decode cX9_fill 20 = .ok (.iload_n 3, 1) := by decide +kernel
theorem dX9_fill_21 : decode cX9_fill 21 = .ok (.iconst 1, 1) := by decide +kernel
theorem dX9_fill_22 : decode cX9_fill 22 = .ok (.if_icmp .lt 38, 3) := by decide +kernel
theorem dX9_fill_25 : decode cX9_fill 25 = .ok (.iload_n 3, 1) := by decide +kernel
theorem dX9_fill_26 : decode cX9_fill 26 = .ok (.bipush 40, 2) := by decide +kernel
theorem dX9_fill_28 : decode cX9_fill 28 = .ok (.iload_n 2, 1) := by decide +kernel
theorem dX9_fill_29 : decode cX9_fill 29 = .ok (.isub, 1) := by decide +kernel
theorem dX9_fill_30 : decode cX9_fill 30 = .ok (.if_icmp .gt 30, 3) := by decide +kernel
theorem dX9_fill_33 : decode cX9_fill 33 = .ok (.iload 4, 2) := by decide +kernel
theorem dX9_fill_35 : decode cX9_fill 35 = .ok (.i2l, 1) := by decide +kernel
theorem dX9_fill_36 : decode cX9_fill 36 = .ok (.invokestatic 184, 3) := by decide +kernel
theorem dX9_fill_39 : decode cX9_fill 39 = .ok (.ifCond .eq 21, 3) := by decide +kernel
theorem dX9_fill_42 : decode cX9_fill 42 = .ok (.iload 4, 2) := by decide +kernel
theorem dX9_fill_44 : decode cX9_fill 44 = .ok (.i2l, 1) := by decide +kernel
theorem dX9_fill_45 : decode cX9_fill 45 = .ok (.iload_n 3, 1) := by decide +kernel
theorem dX9_fill_46 : decode cX9_fill 46 = .ok (.i2l, 1) := by decide +kernel
theorem dX9_fill_47 : decode cX9_fill 47 = .ok (.lconst 1, 1) := by decide +kernel
theorem dX9_fill_48 : decode cX9_fill 48 = .ok (.lsub, 1) := by decide +kernel
theorem dX9_fill_49 : decode cX9_fill 49 = .ok (.iload 5, 2) := by decide +kernel
theorem dX9_fill_51 : decode cX9_fill 51 = .ok (.i2l, 1) := by decide +kernel
theorem dX9_fill_52 : decode cX9_fill 52 = .ok (.lmul, 1) := by decide +kernel
theorem dX9_fill_53 : decode cX9_fill 53 = .ok (.ladd, 1) := by decide +kernel
theorem dX9_fill_54 : decode cX9_fill 54 = .ok (.invokestatic 184, 3) := by decide +kernel
theorem dX9_fill_57 : decode cX9_fill 57 = .ok (.ifCond .ne 9, 3) := by decide +kernel
theorem dX9_fill_60 : decode cX9_fill 60 = .ok (.aload_n 0, 1) := by decide +kernel
theorem dX9_fill_61 : decode cX9_fill 61 = .ok (.iconst 2, 1) := by decide +kernel
theorem dX9_fill_62 : decode cX9_fill 62 = .ok (.invokevirtual 181, 3) := by decide +kernel
theorem dX9_fill_65 : decode cX9_fill 65 = .ok (.ireturn, 1) := by decide +kernel
theorem dX9_fill_66 : decode cX9_fill 66 = .ok (.iconst 0, 1) := by decide +kernel
theorem dX9_fill_67 : decode cX9_fill 67 = .ok (.istore 6, 2) := by decide +kernel
theorem dX9_fill_69 : decode cX9_fill 69 = .ok (.iload 6, 2) := by decide +kernel
theorem dX9_fill_71 : decode cX9_fill 71 = .ok (.iload_n 3, 1) := by decide +kernel
theorem dX9_fill_72 : decode cX9_fill 72 = .ok (.if_icmp .ge 44, 3) := by decide +kernel
theorem dX9_fill_75 : decode cX9_fill 75 = .ok (.aload_n 0, 1) := by decide +kernel
theorem dX9_fill_76 : decode cX9_fill 76 = .ok (.getfield 26, 3) := by decide +kernel
theorem dX9_fill_79 : decode cX9_fill 79 = .ok (.iload_n 1, 1) := by decide +kernel
theorem dX9_fill_80 : decode cX9_fill 80 = .ok (.iload_n 2, 1) := by decide +kernel
theorem dX9_fill_81 : decode cX9_fill 81 = .ok (.iload 6, 2) := by decide +kernel
theorem dX9_fill_83 : decode cX9_fill 83 = .ok (.iadd, 1) := by decide +kernel
theorem dX9_fill_84 : decode cX9_fill 84 = .ok (.invokestatic 188, 3) := by decide +kernel
theorem dX9_fill_87 : decode cX9_fill 87 = .ok (.iload 4, 2) := by decide +kernel
theorem dX9_fill_89 : decode cX9_fill 89 = .ok (.iload 6, 2) := by decide +kernel
theorem dX9_fill_91 : decode cX9_fill 91 = .ok (.iload 5, 2) := by decide +kernel
theorem dX9_fill_93 : decode cX9_fill 93 = .ok (.imul, 1) := by decide +kernel
theorem dX9_fill_94 : decode cX9_fill 94 = .ok (.iadd, 1) := by decide +kernel
theorem dX9_fill_95 : decode cX9_fill 95 = .ok (.iastore, 1) := by decide +kernel
theorem dX9_fill_96 : decode cX9_fill 96 = .ok (.aload_n 0, 1) := by decide +kernel
theorem dX9_fill_97 : decode cX9_fill 97 = .ok (.getfield 41, 3) := by decide +kernel
theorem dX9_fill_100 : decode cX9_fill 100 = .ok (.iload_n 1, 1) := by decide +kernel
theorem dX9_fill_101 : decode cX9_fill 101 = .ok (.iload_n 2, 1) := by decide +kernel
theorem dX9_fill_102 : decode cX9_fill 102 = .ok (.iload 6, 2) := by decide +kernel
theorem dX9_fill_104 : decode cX9_fill 104 = .ok (.iadd, 1) := by decide +kernel
theorem dX9_fill_105 : decode cX9_fill 105 = .ok (.invokestatic 188, 3) := by decide +kernel
theorem dX9_fill_108 : decode cX9_fill 108 = .ok (.iconst 1, 1) := by decide +kernel
theorem dX9_fill_109 : decode cX9_fill 109 = .ok (.bastore, 1) := by decide +kernel
theorem dX9_fill_110 : decode cX9_fill 110 = .ok (.iinc 6 1, 3) := by decide +kernel
theorem dX9_fill_113 : decode cX9_fill 113 = .ok (.goto (-44), 3) := by decide +kernel
theorem dX9_fill_116 : decode cX9_fill 116 = .ok (.aload_n 0, 1) := by decide +kernel
theorem dX9_fill_117 : decode cX9_fill 117 = .ok (.iconst 0, 1) := by decide +kernel
theorem dX9_fill_118 : decode cX9_fill 118 = .ok (.invokevirtual 181, 3) := by decide +kernel
theorem dX9_fill_121 : decode cX9_fill 121 = .ok (.ireturn, 1) := by decide +kernel
theorem dX9_gap_0 : decode cX9_gap 0 = .ok (.iload_n 1, 1) := by decide +kernel
theorem dX9_gap_1 : decode cX9_gap 1 = .ok (.invokestatic 174, 3) := by decide +kernel
theorem dX9_gap_4 : decode cX9_gap 4 = .ok (.ifCond .eq 10, 3) := by decide +kernel
theorem dX9_gap_7 : decode cX9_gap 7 = .ok (.iload_n 2, 1) := by decide +kernel
theorem dX9_gap_8 : decode cX9_gap 8 = .ok (.invokestatic 178, 3) := by decide +kernel
theorem dX9_gap_11 : decode cX9_gap 11 = .ok (.ifCond .ne 9, 3) := by decide +kernel
theorem dX9_gap_14 : decode cX9_gap 14 = .ok (.aload_n 0, 1) := by decide +kernel
theorem dX9_gap_15 : decode cX9_gap 15 = .ok (.iconst 1, 1) := by decide +kernel
theorem dX9_gap_16 : decode cX9_gap 16 = .ok (.invokevirtual 181, 3) := by decide +kernel
theorem dX9_gap_19 : decode cX9_gap 19 = .ok (.ireturn, 1) := by decide +kernel
theorem dX9_gap_20 : decode cX9_gap 20 = .ok (.aload_n 0, 1) := by decide +kernel
theorem dX9_gap_21 : decode cX9_gap 21 = .ok (.getfield 41, 3) := by decide +kernel
theorem dX9_gap_24 : decode cX9_gap 24 = .ok (.iload_n 1, 1) := by decide +kernel
theorem dX9_gap_25 : decode cX9_gap 25 = .ok (.iload_n 2, 1) := by decide +kernel
theorem dX9_gap_26 : decode cX9_gap 26 = .ok (.invokestatic 188, 3) := by decide +kernel
theorem dX9_gap_29 : decode cX9_gap 29 = .ok (.baload, 1) := by decide +kernel
theorem dX9_gap_30 : decode cX9_gap 30 = .ok (.ifCond .ne 9, 3) := by decide +kernel
theorem dX9_gap_33 : decode cX9_gap 33 = .ok (.aload_n 0, 1) := by decide +kernel
theorem dX9_gap_34 : decode cX9_gap 34 = .ok (.iconst 5, 1) := by decide +kernel
theorem dX9_gap_35 : decode cX9_gap 35 = .ok (.invokevirtual 181, 3) := by decide +kernel
theorem dX9_gap_38 : decode cX9_gap 38 = .ok (.ireturn, 1) := by decide +kernel
theorem dX9_gap_39 : decode cX9_gap 39 = .ok (.aload_n 0, 1) := by decide +kernel
theorem dX9_gap_40 : decode cX9_gap 40 = .ok (.getfield 41, 3) := by decide +kernel
theorem dX9_gap_43 : decode cX9_gap 43 = .ok (.iload_n 1, 1) := by decide +kernel
theorem dX9_gap_44 : decode cX9_gap 44 = .ok (.iload_n 2, 1) := by decide +kernel
theorem dX9_gap_45 : decode cX9_gap 45 = .ok (.invokestatic 188, 3) := by decide +kernel
theorem dX9_gap_48 : decode cX9_gap 48 = .ok (.iconst 0, 1) := by decide +kernel
theorem dX9_gap_49 : decode cX9_gap 49 = .ok (.bastore, 1) := by decide +kernel
theorem dX9_gap_50 : decode cX9_gap 50 = .ok (.aload_n 0, 1) := by decide +kernel
theorem dX9_gap_51 : decode cX9_gap 51 = .ok (.iconst 0, 1) := by decide +kernel
theorem dX9_gap_52 : decode cX9_gap 52 = .ok (.invokevirtual 181, 3) := by decide +kernel
theorem dX9_gap_55 : decode cX9_gap 55 = .ok (.ireturn, 1) := by decide +kernel
theorem dX9_number_0 : decode cX9_number 0 = .ok (.iload_n 1, 1) := by decide +kernel
theorem dX9_number_1 : decode cX9_number 1 = .ok (.invokestatic 174, 3) := by decide +kernel
theorem dX9_number_4 : decode cX9_number 4 = .ok (.ifCond .eq 10, 3) := by decide +kernel
theorem dX9_number_7 : decode cX9_number 7 = .ok (.iload_n 2, 1) := by decide +kernel
theorem dX9_number_8 : decode cX9_number 8 = .ok (.invokestatic 178, 3) := by decide +kernel
theorem dX9_number_11 : decode cX9_number 11 = .ok (.ifCond .ne 9, 3) := by decide +kernel
theorem dX9_number_14 : decode cX9_number 14 = .ok (.aload_n 0, 1) := by decide +kernel
theorem dX9_number_15 : decode cX9_number 15 = .ok (.iconst 1, 1) := by decide +kernel
theorem dX9_number_16 : decode cX9_number 16 = .ok (.invokevirtual 191, 3) := by decide +kernel
theorem dX9_number_19 : decode cX9_number 19 = .ok (.ireturn, 1) := by decide +kernel
theorem dX9_number_20 : decode cX9_number 20 = .ok (.aload_n 0, 1) := by decide +kernel
theorem dX9_number_21 : decode cX9_number 21 = .ok (.getfield 41, 3) := by decide +kernel
theorem dX9_number_24 : decode cX9_number 24 = .ok (.iload_n 1, 1) := by decide +kernel
theorem dX9_number_25 : decode cX9_number 25 = .ok (.iload_n 2, 1) := by decide +kernel
theorem dX9_number_26 : decode cX9_number 26 = .ok (.invokestatic 188, 3) := by decide +kernel
theorem dX9_number_29 : decode cX9_number 29 = .ok (.baload, 1) := by decide +kernel
theorem dX9_number_30 : decode cX9_number 30 = .ok (.ifCond .ne 10, 3) := by decide +kernel
theorem dX9_number_33 : decode cX9_number 33 = .ok (.aload_n 0, 1) := by decide +kernel
theorem dX9_number_34 : decode cX9_number 34 = .ok (.bipush 7, 2) := by decide +kernel
theorem dX9_number_36 : decode cX9_number 36 = .ok (.invokevirtual 191, 3) := by decide +kernel
theorem dX9_number_39 : decode cX9_number 39 = .ok (.ireturn, 1) := by decide +kernel
theorem dX9_number_40 : decode cX9_number 40 = .ok (.aload_n 0, 1) := by decide +kernel
theorem dX9_number_41 : decode cX9_number 41 = .ok (.iconst 0, 1) := by decide +kernel
theorem dX9_number_42 : decode cX9_number 42 = .ok (.putfield 82, 3) := by decide +kernel
theorem dX9_number_45 : decode cX9_number 45 = .ok (.aload_n 0, 1) := by decide +kernel
theorem dX9_number_46 : decode cX9_number 46 = .ok (.getfield 26, 3) := by decide +kernel
theorem dX9_number_49 : decode cX9_number 49 = .ok (.iload_n 1, 1) := by decide +kernel
theorem dX9_number_50 : decode cX9_number 50 = .ok (.iload_n 2, 1) := by decide +kernel
theorem dX9_number_51 : decode cX9_number 51 = .ok (.invokestatic 188, 3) := by decide +kernel
theorem dX9_number_54 : decode cX9_number 54 = .ok (.iaload, 1) := by decide +kernel
theorem dX9_number_55 : decode cX9_number 55 = .ok (.ireturn, 1) := by decide +kernel
theorem dX9_counts_0 : decode cX9_counts 0 = .ok (.aload_n 0, 1) := by decide +kernel
theorem dX9_counts_1 : decode cX9_counts 1 = .ok (.getfield 41, 3) := by decide +kernel
theorem dX9_counts_4 : decode cX9_counts 4 = .ok (.iload_n 1, 1) := by decide +kernel
theorem dX9_counts_5 : decode cX9_counts 5 = .ok (.iload_n 2, 1) := by decide +kernel
theorem dX9_counts_6 : decode cX9_counts 6 = .ok (.invokestatic 188, 3) := by decide +kernel
theorem dX9_counts_9 : decode cX9_counts 9 = .ok (.baload, 1) := by decide +kernel
theorem dX9_counts_10 : decode cX9_counts 10 = .ok (.ifCond .eq 20, 3) := by decide +kernel
theorem dX9_counts_13 : decode cX9_counts 13 = .ok (.aload_n 0, 1) := by decide +kernel
theorem dX9_counts_14 : decode cX9_counts 14 = .ok (.getfield 45, 3) := by decide +kernel
theorem dX9_counts_17 : decode cX9_counts 17 = .ok (.iload_n 1, 1) := by decide +kernel
theorem dX9_counts_18 : decode cX9_counts 18 = .ok (.iload_n 2, 1) := by decide +kernel
theorem dX9_counts_19 : decode cX9_counts 19 = .ok (.invokestatic 188, 3) := by decide +kernel
theorem dX9_counts_22 : decode cX9_counts 22 = .ok (.baload, 1) := by decide +kernel
theorem dX9_counts_23 : decode cX9_counts 23 = .ok (.ifCond .ne 7, 3) := by decide +kernel
theorem dX9_counts_26 : decode cX9_counts 26 = .ok (.iconst 1, 1) := by decide +kernel
theorem dX9_counts_27 : decode cX9_counts 27 = .ok (.goto 4, 3) := by decide +kernel
theorem dX9_counts_30 : decode cX9_counts 30 = .ok (.iconst 0, 1) := by decide +kernel
theorem dX9_counts_31 : decode cX9_counts 31 = .ok (.ireturn, 1) := by decide +kernel
theorem dX9_told_0 : decode cX9_told 0 = .ok (.iload_n 1, 1) := by decide +kernel
theorem dX9_told_1 : decode cX9_told 1 = .ok (.invokestatic 174, 3) := by decide +kernel
theorem dX9_told_4 : decode cX9_told 4 = .ok (.ifCond .ne 9, 3) := by decide +kernel
theorem dX9_told_7 : decode cX9_told 7 = .ok (.aload_n 0, 1) := by decide +kernel
theorem dX9_told_8 : decode cX9_told 8 = .ok (.iconst 1, 1) := by decide +kernel
theorem dX9_told_9 : decode cX9_told 9 = .ok (.invokevirtual 191, 3) := by decide +kernel
theorem dX9_told_12 : decode cX9_told 12 = .ok (.ireturn, 1) := by decide +kernel
theorem dX9_told_13 : decode cX9_told 13 = .ok (.iload_n 2, 1) := by decide +kernel
theorem dX9_told_14 : decode cX9_told 14 = .ok (.ifCond .lt 9, 3) := by decide +kernel
theorem dX9_told_17 : decode cX9_told 17 = .ok (.iload_n 2, 1) := by decide +kernel
theorem dX9_told_18 : decode cX9_told 18 = .ok (.bipush 6, 2) := by decide +kernel
theorem dX9_told_20 : decode cX9_told 20 = .ok (.if_icmp .le 9, 3) := by decide +kernel
theorem dX9_told_23 : decode cX9_told 23 = .ok (.aload_n 0, 1) := by decide +kernel
theorem dX9_told_24 : decode cX9_told 24 = .ok (.iconst 2, 1) := by decide +kernel
theorem dX9_told_25 : decode cX9_told 25 = .ok (.invokevirtual 191, 3) := by decide +kernel
theorem dX9_told_28 : decode cX9_told 28 = .ok (.ireturn, 1) := by decide +kernel
theorem dX9_told_29 : decode cX9_told 29 = .ok (.aload_n 0, 1) := by decide +kernel
theorem dX9_told_30 : decode cX9_told 30 = .ok (.iconst 0, 1) := by decide +kernel
theorem dX9_told_31 : decode cX9_told 31 = .ok (.putfield 82, 3) := by decide +kernel
theorem dX9_told_34 : decode cX9_told 34 = .ok (.iconst 0, 1) := by decide +kernel
theorem dX9_told_35 : decode cX9_told 35 = .ok (.istore_n 3, 1) := by decide +kernel
theorem dX9_told_36 : decode cX9_told 36 = .ok (.iconst 0, 1) := by decide +kernel
theorem dX9_told_37 : decode cX9_told 37 = .ok (.istore 4, 2) := by decide +kernel
theorem dX9_told_39 : decode cX9_told 39 = .ok (.iload 4, 2) := by decide +kernel
theorem dX9_told_41 : decode cX9_told 41 = .ok (.bipush 40, 2) := by decide +kernel
theorem dX9_told_43 : decode cX9_told 43 = .ok (.if_icmp .ge 75, 3) := by decide +kernel
theorem dX9_told_46 : decode cX9_told 46 = .ok (.iload_n 2, 1) := by decide +kernel
theorem dX9_told_47 : decode cX9_told 47 = .ok (.iconst 3, 1) := by decide +kernel
theorem dX9_told_48 : decode cX9_told 48 = .ok (.if_icmp .ge 70, 3) := by decide +kernel
theorem dX9_told_51 : decode cX9_told 51 = .ok (.iload_n 3, 1) := by decide +kernel
theorem dX9_told_52 : decode cX9_told 52 = .ok (.iload_n 2, 1) := by decide +kernel
theorem dX9_told_53 : decode cX9_told 53 = .ok (.ifCond .ne 20, 3) := by decide +kernel
theorem dX9_told_56 : decode cX9_told 56 = .ok (.aload_n 0, 1) := by decide +kernel
theorem dX9_told_57 : decode cX9_told 57 = .ok (.getfield 41, 3) := by decide +kernel
theorem dX9_told_60 : decode cX9_told 60 = .ok (.iload_n 1, 1) := by decide +kernel
theorem dX9_told_61 : decode cX9_told 61 = .ok (.iload 4, 2) := by decide +kernel
theorem dX9_told_63 : decode cX9_told 63 = .ok (.invokestatic 188, 3) := by decide +kernel
theorem dX9_told_66 : decode cX9_told 66 = .ok (.baload, 1) := by decide +kernel
theorem dX9_told_67 : decode cX9_told 67 = .ok (.ifCond .eq 42, 3) := by decide +kernel
theorem dX9_told_70 : decode cX9_told 70 = .ok (.goto 35, 3) := by decide +kernel
theorem dX9_told_73 : decode cX9_told 73 = .ok (.iload_n 2, 1) := by decide +kernel
theorem dX9_told_74 : decode cX9_told 74 = .ok (.iconst 1, 1) := by decide +kernel
theorem dX9_told_75 : decode cX9_told 75 = .ok (.if_icmp .ne 16, 3) := by decide +kernel
theorem dX9_told_78 : decode cX9_told 78 = .ok (.aload_n 0, 1) := by decide +kernel
theorem dX9_told_79 : decode cX9_told 79 = .ok (.iload_n 1, 1) := by decide +kernel
theorem dX9_told_80 : decode cX9_told 80 = .ok (.iload 4, 2) := by decide +kernel
theorem dX9_told_82 : decode cX9_told 82 = .ok (.invokevirtual 194, 3) := by decide +kernel
theorem dX9_told_85 : decode cX9_told 85 = .ok (.ifCond .eq 24, 3) := by decide +kernel
theorem dX9_told_88 : decode cX9_told 88 = .ok (.goto 17, 3) := by decide +kernel
theorem dX9_told_91 : decode cX9_told 91 = .ok (.aload_n 0, 1) := by decide +kernel
theorem dX9_told_92 : decode cX9_told 92 = .ok (.getfield 45, 3) := by decide +kernel
theorem dX9_told_95 : decode cX9_told 95 = .ok (.iload_n 1, 1) := by decide +kernel
theorem dX9_told_96 : decode cX9_told 96 = .ok (.iload 4, 2) := by decide +kernel
theorem dX9_told_98 : decode cX9_told 98 = .ok (.invokestatic 188, 3) := by decide +kernel
theorem dX9_told_101 : decode cX9_told 101 = .ok (.baload, 1) := by decide +kernel
theorem dX9_told_102 : decode cX9_told 102 = .ok (.ifCond .eq 7, 3) := by decide +kernel
theorem dX9_told_105 : decode cX9_told 105 = .ok (.iconst 1, 1) := by decide +kernel
theorem dX9_told_106 : decode cX9_told 106 = .ok (.goto 4, 3) := by decide +kernel
theorem dX9_told_109 : decode cX9_told 109 = .ok (.iconst 0, 1) := by decide +kernel
theorem dX9_told_110 : decode cX9_told 110 = .ok (.iadd, 1) := by decide +kernel
theorem dX9_told_111 : decode cX9_told 111 = .ok (.istore_n 3, 1) := by decide +kernel
theorem dX9_told_112 : decode cX9_told 112 = .ok (.iinc 4 1, 3) := by decide +kernel
theorem dX9_told_115 : decode cX9_told 115 = .ok (.goto (-76), 3) := by decide +kernel
theorem dX9_told_118 : decode cX9_told 118 = .ok (.iload_n 2, 1) := by decide +kernel
theorem dX9_told_119 : decode cX9_told 119 = .ok (.tableswitch 65 3 6 #[29, 36, 43, 50], 29) := by decide +kernel
theorem dX9_told_148 : decode cX9_told 148 = .ok (.aload_n 0, 1) := by decide +kernel
theorem dX9_told_149 : decode cX9_told 149 = .ok (.getfield 32, 3) := by decide +kernel
theorem dX9_told_152 : decode cX9_told 152 = .ok (.iload_n 1, 1) := by decide +kernel
theorem dX9_told_153 : decode cX9_told 153 = .ok (.iaload, 1) := by decide +kernel
theorem dX9_told_154 : decode cX9_told 154 = .ok (.ireturn, 1) := by decide +kernel
theorem dX9_told_155 : decode cX9_told 155 = .ok (.aload_n 0, 1) := by decide +kernel
theorem dX9_told_156 : decode cX9_told 156 = .ok (.getfield 38, 3) := by decide +kernel
theorem dX9_told_159 : decode cX9_told 159 = .ok (.iload_n 1, 1) := by decide +kernel
theorem dX9_told_160 : decode cX9_told 160 = .ok (.iaload, 1) := by decide +kernel
theorem dX9_told_161 : decode cX9_told 161 = .ok (.ireturn, 1) := by decide +kernel
theorem dX9_told_162 : decode cX9_told 162 = .ok (.aload_n 0, 1) := by decide +kernel
theorem dX9_told_163 : decode cX9_told 163 = .ok (.getfield 29, 3) := by decide +kernel
theorem dX9_told_166 : decode cX9_told 166 = .ok (.iload_n 1, 1) := by decide +kernel
theorem dX9_told_167 : decode cX9_told 167 = .ok (.iaload, 1) := by decide +kernel
theorem dX9_told_168 : decode cX9_told 168 = .ok (.ireturn, 1) := by decide +kernel
theorem dX9_told_169 : decode cX9_told 169 = .ok (.aload_n 0, 1) := by decide +kernel
theorem dX9_told_170 : decode cX9_told 170 = .ok (.getfield 48, 3) := by decide +kernel
theorem dX9_told_173 : decode cX9_told 173 = .ok (.iload_n 1, 1) := by decide +kernel
theorem dX9_told_174 : decode cX9_told 174 = .ok (.baload, 1) := by decide +kernel
theorem dX9_told_175 : decode cX9_told 175 = .ok (.ifCond .eq 7, 3) := by decide +kernel
theorem dX9_told_178 : decode cX9_told 178 = .ok (.iconst 1, 1) := by decide +kernel
theorem dX9_told_179 : decode cX9_told 179 = .ok (.goto 4, 3) := by decide +kernel
theorem dX9_told_182 : decode cX9_told 182 = .ok (.iconst 0, 1) := by decide +kernel
theorem dX9_told_183 : decode cX9_told 183 = .ok (.ireturn, 1) := by decide +kernel
theorem dX9_told_184 : decode cX9_told 184 = .ok (.iload_n 3, 1) := by decide +kernel
theorem dX9_told_185 : decode cX9_told 185 = .ok (.ireturn, 1) := by decide +kernel
theorem dX9_model_0 : decode cX9_model 0 = .ok (.iload_n 1, 1) := by decide +kernel
theorem dX9_model_1 : decode cX9_model 1 = .ok (.invokestatic 174, 3) := by decide +kernel
theorem dX9_model_4 : decode cX9_model 4 = .ok (.ifCond .ne 9, 3) := by decide +kernel
theorem dX9_model_7 : decode cX9_model 7 = .ok (.aload_n 0, 1) := by decide +kernel
theorem dX9_model_8 : decode cX9_model 8 = .ok (.iconst 1, 1) := by decide +kernel
theorem dX9_model_9 : decode cX9_model 9 = .ok (.invokevirtual 181, 3) := by decide +kernel
theorem dX9_model_12 : decode cX9_model 12 = .ok (.ireturn, 1) := by decide +kernel
theorem dX9_model_13 : decode cX9_model 13 = .ok (.iload_n 3, 1) := by decide +kernel
theorem dX9_model_14 : decode cX9_model 14 = .ok (.ifCond .eq 20, 3) := by decide +kernel
theorem dX9_model_17 : decode cX9_model 17 = .ok (.iload_n 3, 1) := by decide +kernel
theorem dX9_model_18 : decode cX9_model 18 = .ok (.iconst 2, 1) := by decide +kernel
theorem dX9_model_19 : decode cX9_model 19 = .ok (.if_icmp .lt 9, 3) := by decide +kernel
theorem dX9_model_22 : decode cX9_model 22 = .ok (.iload_n 3, 1) := by decide +kernel
theorem dX9_model_23 : decode cX9_model 23 = .ok (.bipush 7, 2) := by decide +kernel
theorem dX9_model_25 : decode cX9_model 25 = .ok (.if_icmp .le 9, 3) := by decide +kernel
theorem dX9_model_28 : decode cX9_model 28 = .ok (.aload_n 0, 1) := by decide +kernel
theorem dX9_model_29 : decode cX9_model 29 = .ok (.iconst 2, 1) := by decide +kernel
theorem dX9_model_30 : decode cX9_model 30 = .ok (.invokevirtual 181, 3) := by decide +kernel
theorem dX9_model_33 : decode cX9_model 33 = .ok (.ireturn, 1) := by decide +kernel
theorem dX9_model_34 : decode cX9_model 34 = .ok (.aload_n 0, 1) := by decide +kernel
theorem dX9_model_35 : decode cX9_model 35 = .ok (.getfield 48, 3) := by decide +kernel
theorem dX9_model_38 : decode cX9_model 38 = .ok (.iload_n 1, 1) := by decide +kernel
theorem dX9_model_39 : decode cX9_model 39 = .ok (.iload_n 2, 1) := by decide +kernel
theorem dX9_model_40 : decode cX9_model 40 = .ok (.bastore, 1) := by decide +kernel
theorem dX9_model_41 : decode cX9_model 41 = .ok (.aload_n 0, 1) := by decide +kernel
theorem dX9_model_42 : decode cX9_model 42 = .ok (.getfield 29, 3) := by decide +kernel
theorem dX9_model_45 : decode cX9_model 45 = .ok (.iload_n 1, 1) := by decide +kernel
theorem dX9_model_46 : decode cX9_model 46 = .ok (.iload_n 3, 1) := by decide +kernel
theorem dX9_model_47 : decode cX9_model 47 = .ok (.iastore, 1) := by decide +kernel
theorem dX9_model_48 : decode cX9_model 48 = .ok (.aload_n 0, 1) := by decide +kernel
theorem dX9_model_49 : decode cX9_model 49 = .ok (.iconst 0, 1) := by decide +kernel
theorem dX9_model_50 : decode cX9_model 50 = .ok (.invokevirtual 181, 3) := by decide +kernel
theorem dX9_model_53 : decode cX9_model 53 = .ok (.ireturn, 1) := by decide +kernel
theorem dX9_findStep_0 : decode cX9_findStep 0 = .ok (.iconst 0, 1) := by decide +kernel
theorem dX9_findStep_1 : decode cX9_findStep 1 = .ok (.istore_n 3, 1) := by decide +kernel
theorem dX9_findStep_2 : decode cX9_findStep 2 = .ok (.iload_n 3, 1) := by decide +kernel
theorem dX9_findStep_3 : decode cX9_findStep 3 = .ok (.aload_n 0, 1) := by decide +kernel
theorem dX9_findStep_4 : decode cX9_findStep 4 = .ok (.getfield 32, 3) := by decide +kernel
theorem dX9_findStep_7 : decode cX9_findStep 7 = .ok (.iload_n 1, 1) := by decide +kernel
theorem dX9_findStep_8 : decode cX9_findStep 8 = .ok (.iaload, 1) := by decide +kernel
theorem dX9_findStep_9 : decode cX9_findStep 9 = .ok (.if_icmp .ge 25, 3) := by decide +kernel
theorem dX9_findStep_12 : decode cX9_findStep 12 = .ok (.aload_n 0, 1) := by decide +kernel
theorem dX9_findStep_13 : decode cX9_findStep 13 = .ok (.getfield 35, 3) := by decide +kernel
theorem dX9_findStep_16 : decode cX9_findStep 16 = .ok (.iconst 3, 1) := by decide +kernel
theorem dX9_findStep_17 : decode cX9_findStep 17 = .ok (.iload_n 1, 1) := by decide +kernel
theorem dX9_findStep_18 : decode cX9_findStep 18 = .ok (.imul, 1) := by decide +kernel
theorem dX9_findStep_19 : decode cX9_findStep 19 = .ok (.iload_n 3, 1) := by decide +kernel
theorem dX9_findStep_20 : decode cX9_findStep 20 = .ok (.iadd, 1) := by decide +kernel
theorem dX9_findStep_21 : decode cX9_findStep 21 = .ok (.iaload, 1) := by decide +kernel
theorem dX9_findStep_22 : decode cX9_findStep 22 = .ok (.iload_n 2, 1) := by decide +kernel
theorem dX9_findStep_23 : decode cX9_findStep 23 = .ok (.if_icmp .ne 5, 3) := by decide +kernel
theorem dX9_findStep_26 : decode cX9_findStep 26 = .ok (.iload_n 3, 1) := by decide +kernel
theorem dX9_findStep_27 : decode cX9_findStep 27 = .ok (.ireturn, 1) := by decide +kernel
theorem dX9_findStep_28 : decode cX9_findStep 28 = .ok (.iinc 3 1, 3) := by decide +kernel
theorem dX9_findStep_31 : decode cX9_findStep 31 = .ok (.goto (-29), 3) := by decide +kernel
theorem dX9_findStep_34 : decode cX9_findStep 34 = .ok (.iconst (-1), 1) := by decide +kernel
theorem dX9_findStep_35 : decode cX9_findStep 35 = .ok (.ireturn, 1) := by decide +kernel
theorem dX9_addStep_0 : decode cX9_addStep 0 = .ok (.aload_n 0, 1) := by decide +kernel
theorem dX9_addStep_1 : decode cX9_addStep 1 = .ok (.getfield 32, 3) := by decide +kernel
theorem dX9_addStep_4 : decode cX9_addStep 4 = .ok (.iload_n 1, 1) := by decide +kernel
theorem dX9_addStep_5 : decode cX9_addStep 5 = .ok (.iaload, 1) := by decide +kernel
theorem dX9_addStep_6 : decode cX9_addStep 6 = .ok (.istore_n 3, 1) := by decide +kernel
theorem dX9_addStep_7 : decode cX9_addStep 7 = .ok (.iload_n 3, 1) := by decide +kernel
theorem dX9_addStep_8 : decode cX9_addStep 8 = .ok (.ifCond .le 47, 3) := by decide +kernel
theorem dX9_addStep_11 : decode cX9_addStep 11 = .ok (.aload_n 0, 1) := by decide +kernel
theorem dX9_addStep_12 : decode cX9_addStep 12 = .ok (.getfield 35, 3) := by decide +kernel
theorem dX9_addStep_15 : decode cX9_addStep 15 = .ok (.iconst 3, 1) := by decide +kernel
theorem dX9_addStep_16 : decode cX9_addStep 16 = .ok (.iload_n 1, 1) := by decide +kernel
theorem dX9_addStep_17 : decode cX9_addStep 17 = .ok (.imul, 1) := by decide +kernel
theorem dX9_addStep_18 : decode cX9_addStep 18 = .ok (.iload_n 3, 1) := by decide +kernel
theorem dX9_addStep_19 : decode cX9_addStep 19 = .ok (.iadd, 1) := by decide +kernel
theorem dX9_addStep_20 : decode cX9_addStep 20 = .ok (.iconst 1, 1) := by decide +kernel
theorem dX9_addStep_21 : decode cX9_addStep 21 = .ok (.isub, 1) := by decide +kernel
theorem dX9_addStep_22 : decode cX9_addStep 22 = .ok (.iaload, 1) := by decide +kernel
theorem dX9_addStep_23 : decode cX9_addStep 23 = .ok (.iload_n 2, 1) := by decide +kernel
theorem dX9_addStep_24 : decode cX9_addStep 24 = .ok (.if_icmp .le 31, 3) := by decide +kernel
theorem dX9_addStep_27 : decode cX9_addStep 27 = .ok (.aload_n 0, 1) := by decide +kernel
theorem dX9_addStep_28 : decode cX9_addStep 28 = .ok (.getfield 35, 3) := by decide +kernel
theorem dX9_addStep_31 : decode cX9_addStep 31 = .ok (.iconst 3, 1) := by decide +kernel
theorem dX9_addStep_32 : decode cX9_addStep 32 = .ok (.iload_n 1, 1) := by decide +kernel
theorem dX9_addStep_33 : decode cX9_addStep 33 = .ok (.imul, 1) := by decide +kernel
theorem dX9_addStep_34 : decode cX9_addStep 34 = .ok (.iload_n 3, 1) := by decide +kernel
theorem dX9_addStep_35 : decode cX9_addStep 35 = .ok (.iadd, 1) := by decide +kernel
theorem dX9_addStep_36 : decode cX9_addStep 36 = .ok (.aload_n 0, 1) := by decide +kernel
theorem dX9_addStep_37 : decode cX9_addStep 37 = .ok (.getfield 35, 3) := by decide +kernel
theorem dX9_addStep_40 : decode cX9_addStep 40 = .ok (.iconst 3, 1) := by decide +kernel
theorem dX9_addStep_41 : decode cX9_addStep 41 = .ok (.iload_n 1, 1) := by decide +kernel
theorem dX9_addStep_42 : decode cX9_addStep 42 = .ok (.imul, 1) := by decide +kernel
theorem dX9_addStep_43 : decode cX9_addStep 43 = .ok (.iload_n 3, 1) := by decide +kernel
theorem dX9_addStep_44 : decode cX9_addStep 44 = .ok (.iadd, 1) := by decide +kernel
theorem dX9_addStep_45 : decode cX9_addStep 45 = .ok (.iconst 1, 1) := by decide +kernel
theorem dX9_addStep_46 : decode cX9_addStep 46 = .ok (.isub, 1) := by decide +kernel
theorem dX9_addStep_47 : decode cX9_addStep 47 = .ok (.iaload, 1) := by decide +kernel
theorem dX9_addStep_48 : decode cX9_addStep 48 = .ok (.iastore, 1) := by decide +kernel
theorem dX9_addStep_49 : decode cX9_addStep 49 = .ok (.iinc 3 (-1), 3) := by decide +kernel
theorem dX9_addStep_52 : decode cX9_addStep 52 = .ok (.goto (-45), 3) := by decide +kernel
theorem dX9_addStep_55 : decode cX9_addStep 55 = .ok (.aload_n 0, 1) := by decide +kernel
theorem dX9_addStep_56 : decode cX9_addStep 56 = .ok (.getfield 35, 3) := by decide +kernel
theorem dX9_addStep_59 : decode cX9_addStep 59 = .ok (.iconst 3, 1) := by decide +kernel
theorem dX9_addStep_60 : decode cX9_addStep 60 = .ok (.iload_n 1, 1) := by decide +kernel
theorem dX9_addStep_61 : decode cX9_addStep 61 = .ok (.imul, 1) := by decide +kernel
theorem dX9_addStep_62 : decode cX9_addStep 62 = .ok (.iload_n 3, 1) := by decide +kernel
theorem dX9_addStep_63 : decode cX9_addStep 63 = .ok (.iadd, 1) := by decide +kernel
theorem dX9_addStep_64 : decode cX9_addStep 64 = .ok (.iload_n 2, 1) := by decide +kernel
theorem dX9_addStep_65 : decode cX9_addStep 65 = .ok (.iastore, 1) := by decide +kernel
theorem dX9_addStep_66 : decode cX9_addStep 66 = .ok (.aload_n 0, 1) := by decide +kernel
theorem dX9_addStep_67 : decode cX9_addStep 67 = .ok (.getfield 32, 3) := by decide +kernel
theorem dX9_addStep_70 : decode cX9_addStep 70 = .ok (.iload_n 1, 1) := by decide +kernel
theorem dX9_addStep_71 : decode cX9_addStep 71 = .ok (.dup2, 1) := by decide +kernel
theorem dX9_addStep_72 : decode cX9_addStep 72 = .ok (.iaload, 1) := by decide +kernel
theorem dX9_addStep_73 : decode cX9_addStep 73 = .ok (.iconst 1, 1) := by decide +kernel
theorem dX9_addStep_74 : decode cX9_addStep 74 = .ok (.iadd, 1) := by decide +kernel
theorem dX9_addStep_75 : decode cX9_addStep 75 = .ok (.iastore, 1) := by decide +kernel
theorem dX9_addStep_76 : decode cX9_addStep 76 = .ok (.return_, 1) := by decide +kernel
theorem dX9_takeStep_0 : decode cX9_takeStep 0 = .ok (.aload_n 0, 1) := by decide +kernel
theorem dX9_takeStep_1 : decode cX9_takeStep 1 = .ok (.getfield 32, 3) := by decide +kernel
theorem dX9_takeStep_4 : decode cX9_takeStep 4 = .ok (.iload_n 1, 1) := by decide +kernel
theorem dX9_takeStep_5 : decode cX9_takeStep 5 = .ok (.dup2, 1) := by decide +kernel
theorem dX9_takeStep_6 : decode cX9_takeStep 6 = .ok (.iaload, 1) := by decide +kernel
theorem dX9_takeStep_7 : decode cX9_takeStep 7 = .ok (.iconst 1, 1) := by decide +kernel
theorem dX9_takeStep_8 : decode cX9_takeStep 8 = .ok (.isub, 1) := by decide +kernel
theorem dX9_takeStep_9 : decode cX9_takeStep 9 = .ok (.iastore, 1) := by decide +kernel
theorem dX9_takeStep_10 : decode cX9_takeStep 10 = .ok (.iload_n 2, 1) := by decide +kernel
theorem dX9_takeStep_11 : decode cX9_takeStep 11 = .ok (.istore_n 3, 1) := by decide +kernel
theorem dX9_takeStep_12 : decode cX9_takeStep 12 = .ok (.iload_n 3, 1) := by decide +kernel
theorem dX9_takeStep_13 : decode cX9_takeStep 13 = .ok (.aload_n 0, 1) := by decide +kernel
theorem dX9_takeStep_14 : decode cX9_takeStep 14 = .ok (.getfield 32, 3) := by decide +kernel
theorem dX9_takeStep_17 : decode cX9_takeStep 17 = .ok (.iload_n 1, 1) := by decide +kernel
theorem dX9_takeStep_18 : decode cX9_takeStep 18 = .ok (.iaload, 1) := by decide +kernel
theorem dX9_takeStep_19 : decode cX9_takeStep 19 = .ok (.if_icmp .ge 31, 3) := by decide +kernel
theorem dX9_takeStep_22 : decode cX9_takeStep 22 = .ok (.aload_n 0, 1) := by decide +kernel
theorem dX9_takeStep_23 : decode cX9_takeStep 23 = .ok (.getfield 35, 3) := by decide +kernel
theorem dX9_takeStep_26 : decode cX9_takeStep 26 = .ok (.iconst 3, 1) := by decide +kernel
theorem dX9_takeStep_27 : decode cX9_takeStep 27 = .ok (.iload_n 1, 1) := by decide +kernel
theorem dX9_takeStep_28 : decode cX9_takeStep 28 = .ok (.imul, 1) := by decide +kernel
theorem dX9_takeStep_29 : decode cX9_takeStep 29 = .ok (.iload_n 3, 1) := by decide +kernel
theorem dX9_takeStep_30 : decode cX9_takeStep 30 = .ok (.iadd, 1) := by decide +kernel
theorem dX9_takeStep_31 : decode cX9_takeStep 31 = .ok (.aload_n 0, 1) := by decide +kernel
theorem dX9_takeStep_32 : decode cX9_takeStep 32 = .ok (.getfield 35, 3) := by decide +kernel
theorem dX9_takeStep_35 : decode cX9_takeStep 35 = .ok (.iconst 3, 1) := by decide +kernel
theorem dX9_takeStep_36 : decode cX9_takeStep 36 = .ok (.iload_n 1, 1) := by decide +kernel
theorem dX9_takeStep_37 : decode cX9_takeStep 37 = .ok (.imul, 1) := by decide +kernel
theorem dX9_takeStep_38 : decode cX9_takeStep 38 = .ok (.iload_n 3, 1) := by decide +kernel
theorem dX9_takeStep_39 : decode cX9_takeStep 39 = .ok (.iadd, 1) := by decide +kernel
theorem dX9_takeStep_40 : decode cX9_takeStep 40 = .ok (.iconst 1, 1) := by decide +kernel
theorem dX9_takeStep_41 : decode cX9_takeStep 41 = .ok (.iadd, 1) := by decide +kernel
theorem dX9_takeStep_42 : decode cX9_takeStep 42 = .ok (.iaload, 1) := by decide +kernel
theorem dX9_takeStep_43 : decode cX9_takeStep 43 = .ok (.iastore, 1) := by decide +kernel
theorem dX9_takeStep_44 : decode cX9_takeStep 44 = .ok (.iinc 3 1, 3) := by decide +kernel
theorem dX9_takeStep_47 : decode cX9_takeStep 47 = .ok (.goto (-35), 3) := by decide +kernel
theorem dX9_takeStep_50 : decode cX9_takeStep 50 = .ok (.return_, 1) := by decide +kernel
theorem dX9_step_0 : decode cX9_step 0 = .ok (.iload_n 1, 1) := by decide +kernel
theorem dX9_step_1 : decode cX9_step 1 = .ok (.invokestatic 174, 3) := by decide +kernel
theorem dX9_step_4 : decode cX9_step 4 = .ok (.ifCond .eq 10, 3) := by decide +kernel
theorem dX9_step_7 : decode cX9_step 7 = .ok (.iload_n 2, 1) := by decide +kernel
theorem dX9_step_8 : decode cX9_step 8 = .ok (.invokestatic 178, 3) := by decide +kernel
theorem dX9_step_11 : decode cX9_step 11 = .ok (.ifCond .ne 9, 3) := by decide +kernel
theorem dX9_step_14 : decode cX9_step 14 = .ok (.aload_n 0, 1) := by decide +kernel
theorem dX9_step_15 : decode cX9_step 15 = .ok (.iconst 1, 1) := by decide +kernel
theorem dX9_step_16 : decode cX9_step 16 = .ok (.invokevirtual 181, 3) := by decide +kernel
theorem dX9_step_19 : decode cX9_step 19 = .ok (.ireturn, 1) := by decide +kernel
theorem dX9_step_20 : decode cX9_step 20 = .ok (.iload_n 2, 1) := by decide +kernel
theorem dX9_step_21 : decode cX9_step 21 = .ok (.ifCond .ne 9, 3) := by decide +kernel
theorem dX9_step_24 : decode cX9_step 24 = .ok (.aload_n 0, 1) := by decide +kernel
theorem dX9_step_25 : decode cX9_step 25 = .ok (.iconst 2, 1) := by decide +kernel
theorem dX9_step_26 : decode cX9_step 26 = .ok (.invokevirtual 181, 3) := by decide +kernel
theorem dX9_step_29 : decode cX9_step 29 = .ok (.ireturn, 1) := by decide +kernel
theorem dX9_step_30 : decode cX9_step 30 = .ok (.aload_n 0, 1) := by decide +kernel
theorem dX9_step_31 : decode cX9_step 31 = .ok (.getfield 32, 3) := by decide +kernel
theorem dX9_step_34 : decode cX9_step 34 = .ok (.iload_n 1, 1) := by decide +kernel
theorem dX9_step_35 : decode cX9_step 35 = .ok (.iaload, 1) := by decide +kernel
theorem dX9_step_36 : decode cX9_step 36 = .ok (.iconst 3, 1) := by decide +kernel
theorem dX9_step_37 : decode cX9_step 37 = .ok (.if_icmp .ne 9, 3) := by decide +kernel
theorem dX9_step_40 : decode cX9_step 40 = .ok (.aload_n 0, 1) := by decide +kernel
theorem dX9_step_41 : decode cX9_step 41 = .ok (.iconst 3, 1) := by decide +kernel
theorem dX9_step_42 : decode cX9_step 42 = .ok (.invokevirtual 181, 3) := by decide +kernel
theorem dX9_step_45 : decode cX9_step 45 = .ok (.ireturn, 1) := by decide +kernel
theorem dX9_step_46 : decode cX9_step 46 = .ok (.aload_n 0, 1) := by decide +kernel
theorem dX9_step_47 : decode cX9_step 47 = .ok (.iload_n 1, 1) := by decide +kernel
theorem dX9_step_48 : decode cX9_step 48 = .ok (.iload_n 2, 1) := by decide +kernel
theorem dX9_step_49 : decode cX9_step 49 = .ok (.invokevirtual 198, 3) := by decide +kernel
theorem dX9_step_52 : decode cX9_step 52 = .ok (.iconst (-1), 1) := by decide +kernel
theorem dX9_step_53 : decode cX9_step 53 = .ok (.if_icmp .eq 9, 3) := by decide +kernel
theorem dX9_step_56 : decode cX9_step 56 = .ok (.aload_n 0, 1) := by decide +kernel
theorem dX9_step_57 : decode cX9_step 57 = .ok (.iconst 4, 1) := by decide +kernel
theorem dX9_step_58 : decode cX9_step 58 = .ok (.invokevirtual 181, 3) := by decide +kernel
theorem dX9_step_61 : decode cX9_step 61 = .ok (.ireturn, 1) := by decide +kernel
theorem dX9_step_62 : decode cX9_step 62 = .ok (.aload_n 0, 1) := by decide +kernel
theorem dX9_step_63 : decode cX9_step 63 = .ok (.iload_n 1, 1) := by decide +kernel
theorem dX9_step_64 : decode cX9_step 64 = .ok (.iload_n 2, 1) := by decide +kernel
theorem dX9_step_65 : decode cX9_step 65 = .ok (.invokevirtual 201, 3) := by decide +kernel
theorem dX9_step_68 : decode cX9_step 68 = .ok (.aload_n 0, 1) := by decide +kernel
theorem dX9_step_69 : decode cX9_step 69 = .ok (.iconst 0, 1) := by decide +kernel
theorem dX9_step_70 : decode cX9_step 70 = .ok (.invokevirtual 181, 3) := by decide +kernel
theorem dX9_step_73 : decode cX9_step 73 = .ok (.ireturn, 1) := by decide +kernel
theorem dX9_unstep_0 : decode cX9_unstep 0 = .ok (.iload_n 1, 1) := by decide +kernel
theorem dX9_unstep_1 : decode cX9_unstep 1 = .ok (.invokestatic 174, 3) := by decide +kernel
theorem dX9_unstep_4 : decode cX9_unstep 4 = .ok (.ifCond .eq 10, 3) := by decide +kernel
theorem dX9_unstep_7 : decode cX9_unstep 7 = .ok (.iload_n 2, 1) := by decide +kernel
theorem dX9_unstep_8 : decode cX9_unstep 8 = .ok (.invokestatic 178, 3) := by decide +kernel
theorem dX9_unstep_11 : decode cX9_unstep 11 = .ok (.ifCond .ne 9, 3) := by decide +kernel
theorem dX9_unstep_14 : decode cX9_unstep 14 = .ok (.aload_n 0, 1) := by decide +kernel
theorem dX9_unstep_15 : decode cX9_unstep 15 = .ok (.iconst 1, 1) := by decide +kernel
theorem dX9_unstep_16 : decode cX9_unstep 16 = .ok (.invokevirtual 181, 3) := by decide +kernel
theorem dX9_unstep_19 : decode cX9_unstep 19 = .ok (.ireturn, 1) := by decide +kernel
theorem dX9_unstep_20 : decode cX9_unstep 20 = .ok (.aload_n 0, 1) := by decide +kernel
theorem dX9_unstep_21 : decode cX9_unstep 21 = .ok (.iload_n 1, 1) := by decide +kernel
theorem dX9_unstep_22 : decode cX9_unstep 22 = .ok (.iload_n 2, 1) := by decide +kernel
theorem dX9_unstep_23 : decode cX9_unstep 23 = .ok (.invokevirtual 198, 3) := by decide +kernel
theorem dX9_unstep_26 : decode cX9_unstep 26 = .ok (.istore_n 3, 1) := by decide +kernel
theorem dX9_unstep_27 : decode cX9_unstep 27 = .ok (.iload_n 3, 1) := by decide +kernel
theorem dX9_unstep_28 : decode cX9_unstep 28 = .ok (.iconst (-1), 1) := by decide +kernel
theorem dX9_unstep_29 : decode cX9_unstep 29 = .ok (.if_icmp .ne 9, 3) := by decide +kernel
theorem dX9_unstep_32 : decode cX9_unstep 32 = .ok (.aload_n 0, 1) := by decide +kernel
theorem dX9_unstep_33 : decode cX9_unstep 33 = .ok (.iconst 5, 1) := by decide +kernel
theorem dX9_unstep_34 : decode cX9_unstep 34 = .ok (.invokevirtual 181, 3) := by decide +kernel
theorem dX9_unstep_37 : decode cX9_unstep 37 = .ok (.ireturn, 1) := by decide +kernel
theorem dX9_unstep_38 : decode cX9_unstep 38 = .ok (.aload_n 0, 1) := by decide +kernel
theorem dX9_unstep_39 : decode cX9_unstep 39 = .ok (.iload_n 1, 1) := by decide +kernel
theorem dX9_unstep_40 : decode cX9_unstep 40 = .ok (.iload_n 3, 1) := by decide +kernel
theorem dX9_unstep_41 : decode cX9_unstep 41 = .ok (.invokevirtual 204, 3) := by decide +kernel
theorem dX9_unstep_44 : decode cX9_unstep 44 = .ok (.aload_n 0, 1) := by decide +kernel
theorem dX9_unstep_45 : decode cX9_unstep 45 = .ok (.iconst 0, 1) := by decide +kernel
theorem dX9_unstep_46 : decode cX9_unstep 46 = .ok (.invokevirtual 181, 3) := by decide +kernel
theorem dX9_unstep_49 : decode cX9_unstep 49 = .ok (.ireturn, 1) := by decide +kernel
theorem dX9_feast_0 : decode cX9_feast 0 = .ok (.iload_n 1, 1) := by decide +kernel
theorem dX9_feast_1 : decode cX9_feast 1 = .ok (.invokestatic 174, 3) := by decide +kernel
theorem dX9_feast_4 : decode cX9_feast 4 = .ok (.ifCond .ne 9, 3) := by decide +kernel
theorem dX9_feast_7 : decode cX9_feast 7 = .ok (.aload_n 0, 1) := by decide +kernel
theorem dX9_feast_8 : decode cX9_feast 8 = .ok (.iconst 1, 1) := by decide +kernel
theorem dX9_feast_9 : decode cX9_feast 9 = .ok (.invokevirtual 191, 3) := by decide +kernel
theorem dX9_feast_12 : decode cX9_feast 12 = .ok (.ireturn, 1) := by decide +kernel
theorem dX9_feast_13 : decode cX9_feast 13 = .ok (.aload_n 0, 1) := by decide +kernel
theorem dX9_feast_14 : decode cX9_feast 14 = .ok (.getfield 38, 3) := by decide +kernel
theorem dX9_feast_17 : decode cX9_feast 17 = .ok (.iload_n 1, 1) := by decide +kernel
theorem dX9_feast_18 : decode cX9_feast 18 = .ok (.iaload, 1) := by decide +kernel
theorem dX9_feast_19 : decode cX9_feast 19 = .ok (.iconst 2, 1) := by decide +kernel
theorem dX9_feast_20 : decode cX9_feast 20 = .ok (.if_icmp .ne 9, 3) := by decide +kernel
theorem dX9_feast_23 : decode cX9_feast 23 = .ok (.aload_n 0, 1) := by decide +kernel
theorem dX9_feast_24 : decode cX9_feast 24 = .ok (.iconst 3, 1) := by decide +kernel
theorem dX9_feast_25 : decode cX9_feast 25 = .ok (.invokevirtual 191, 3) := by decide +kernel
theorem dX9_feast_28 : decode cX9_feast 28 = .ok (.ireturn, 1) := by decide +kernel
theorem dX9_feast_29 : decode cX9_feast 29 = .ok (.iconst 0, 1) := by decide +kernel
theorem dX9_feast_30 : decode cX9_feast 30 = .ok (.istore_n 2, 1) := by decide +kernel
theorem dX9_feast_31 : decode cX9_feast 31 = .ok (.iload_n 2, 1) := by decide +kernel
theorem dX9_feast_32 : decode cX9_feast 32 = .ok (.bipush 40, 2) := by decide +kernel
theorem dX9_feast_34 : decode cX9_feast 34 = .ok (.if_icmp .ge 30, 3) := by decide +kernel
theorem dX9_feast_37 : decode cX9_feast 37 = .ok (.aload_n 0, 1) := by decide +kernel
theorem dX9_feast_38 : decode cX9_feast 38 = .ok (.getfield 51, 3) := by decide +kernel
theorem dX9_feast_41 : decode cX9_feast 41 = .ok (.bipush 40, 2) := by decide +kernel
theorem dX9_feast_43 : decode cX9_feast 43 = .ok (.iconst 2, 1) := by decide +kernel
theorem dX9_feast_44 : decode cX9_feast 44 = .ok (.iload_n 1, 1) := by decide +kernel
theorem dX9_feast_45 : decode cX9_feast 45 = .ok (.imul, 1) := by decide +kernel
theorem dX9_feast_46 : decode cX9_feast 46 = .ok (.aload_n 0, 1) := by decide +kernel
theorem dX9_feast_47 : decode cX9_feast 47 = .ok (.getfield 38, 3) := by decide +kernel
theorem dX9_feast_50 : decode cX9_feast 50 = .ok (.iload_n 1, 1) := by decide +kernel
theorem dX9_feast_51 : decode cX9_feast 51 = .ok (.iaload, 1) := by decide +kernel
theorem dX9_feast_52 : decode cX9_feast 52 = .ok (.iadd, 1) := by decide +kernel
theorem dX9_feast_53 : decode cX9_feast 53 = .ok (.imul, 1) := by decide +kernel
theorem dX9_feast_54 : decode cX9_feast 54 = .ok (.iload_n 2, 1) := by decide +kernel
theorem dX9_feast_55 : decode cX9_feast 55 = .ok (.iadd, 1) := by decide +kernel
theorem dX9_feast_56 : decode cX9_feast 56 = .ok (.iconst 0, 1) := by decide +kernel
theorem dX9_feast_57 : decode cX9_feast 57 = .ok (.bastore, 1) := by decide +kernel
theorem dX9_feast_58 : decode cX9_feast 58 = .ok (.iinc 2 1, 3) := by decide +kernel
theorem dX9_feast_61 : decode cX9_feast 61 = .ok (.goto (-30), 3) := by decide +kernel
theorem dX9_feast_64 : decode cX9_feast 64 = .ok (.aload_n 0, 1) := by decide +kernel
theorem dX9_feast_65 : decode cX9_feast 65 = .ok (.getfield 38, 3) := by decide +kernel
theorem dX9_feast_68 : decode cX9_feast 68 = .ok (.iload_n 1, 1) := by decide +kernel
theorem dX9_feast_69 : decode cX9_feast 69 = .ok (.dup2, 1) := by decide +kernel
theorem dX9_feast_70 : decode cX9_feast 70 = .ok (.iaload, 1) := by decide +kernel
theorem dX9_feast_71 : decode cX9_feast 71 = .ok (.iconst 1, 1) := by decide +kernel
theorem dX9_feast_72 : decode cX9_feast 72 = .ok (.iadd, 1) := by decide +kernel
theorem dX9_feast_73 : decode cX9_feast 73 = .ok (.iastore, 1) := by decide +kernel
theorem dX9_feast_74 : decode cX9_feast 74 = .ok (.aload_n 0, 1) := by decide +kernel
theorem dX9_feast_75 : decode cX9_feast 75 = .ok (.iconst 0, 1) := by decide +kernel
theorem dX9_feast_76 : decode cX9_feast 76 = .ok (.putfield 82, 3) := by decide +kernel
theorem dX9_feast_79 : decode cX9_feast 79 = .ok (.aload_n 0, 1) := by decide +kernel
theorem dX9_feast_80 : decode cX9_feast 80 = .ok (.getfield 38, 3) := by decide +kernel
theorem dX9_feast_83 : decode cX9_feast 83 = .ok (.iload_n 1, 1) := by decide +kernel
theorem dX9_feast_84 : decode cX9_feast 84 = .ok (.iaload, 1) := by decide +kernel
theorem dX9_feast_85 : decode cX9_feast 85 = .ok (.iconst 1, 1) := by decide +kernel
theorem dX9_feast_86 : decode cX9_feast 86 = .ok (.isub, 1) := by decide +kernel
theorem dX9_feast_87 : decode cX9_feast 87 = .ok (.ireturn, 1) := by decide +kernel
theorem dX9_on_0 : decode cX9_on 0 = .ok (.iload_n 1, 1) := by decide +kernel
theorem dX9_on_1 : decode cX9_on 1 = .ok (.invokestatic 174, 3) := by decide +kernel
theorem dX9_on_4 : decode cX9_on 4 = .ok (.ifCond .eq 10, 3) := by decide +kernel
theorem dX9_on_7 : decode cX9_on 7 = .ok (.iload_n 3, 1) := by decide +kernel
theorem dX9_on_8 : decode cX9_on 8 = .ok (.invokestatic 178, 3) := by decide +kernel
theorem dX9_on_11 : decode cX9_on 11 = .ok (.ifCond .ne 9, 3) := by decide +kernel
theorem dX9_on_14 : decode cX9_on 14 = .ok (.aload_n 0, 1) := by decide +kernel
theorem dX9_on_15 : decode cX9_on 15 = .ok (.iconst 1, 1) := by decide +kernel
theorem dX9_on_16 : decode cX9_on 16 = .ok (.invokevirtual 181, 3) := by decide +kernel
theorem dX9_on_19 : decode cX9_on 19 = .ok (.ireturn, 1) := by decide +kernel
theorem dX9_on_20 : decode cX9_on 20 = .ok (.iload_n 2, 1) := by decide +kernel
theorem dX9_on_21 : decode cX9_on 21 = .ok (.ifCond .lt 13, 3) := by decide +kernel
theorem dX9_on_24 : decode cX9_on 24 = .ok (.iload_n 2, 1) := by decide +kernel
theorem dX9_on_25 : decode cX9_on 25 = .ok (.aload_n 0, 1) := by decide +kernel
theorem dX9_on_26 : decode cX9_on 26 = .ok (.getfield 38, 3) := by decide +kernel
theorem dX9_on_29 : decode cX9_on 29 = .ok (.iload_n 1, 1) := by decide +kernel
theorem dX9_on_30 : decode cX9_on 30 = .ok (.iaload, 1) := by decide +kernel
theorem dX9_on_31 : decode cX9_on 31 = .ok (.if_icmp .lt 9, 3) := by decide +kernel
theorem dX9_on_34 : decode cX9_on 34 = .ok (.aload_n 0, 1) := by decide +kernel
theorem dX9_on_35 : decode cX9_on 35 = .ok (.iconst 5, 1) := by decide +kernel
theorem dX9_on_36 : decode cX9_on 36 = .ok (.invokevirtual 181, 3) := by decide +kernel
theorem dX9_on_39 : decode cX9_on 39 = .ok (.ireturn, 1) := by decide +kernel
theorem dX9_on_40 : decode cX9_on 40 = .ok (.iconst 0, 1) := by decide +kernel
theorem dX9_on_41 : decode cX9_on 41 = .ok (.istore 4, 2) := by decide +kernel
theorem dX9_on_43 : decode cX9_on 43 = .ok (.bipush 40, 2) := by decide +kernel
theorem dX9_on_45 : decode cX9_on 45 = .ok (.iconst 2, 1) := by decide +kernel
theorem dX9_on_46 : decode cX9_on 46 = .ok (.iload_n 1, 1) := by decide +kernel
theorem dX9_on_47 : decode cX9_on 47 = .ok (.imul, 1) := by decide +kernel
theorem dX9_on_48 : decode cX9_on 48 = .ok (.iload_n 2, 1) := by decide +kernel
theorem dX9_on_49 : decode cX9_on 49 = .ok (.iadd, 1) := by decide +kernel
theorem dX9_on_50 : decode cX9_on 50 = .ok (.imul, 1) := by decide +kernel
theorem dX9_on_51 : decode cX9_on 51 = .ok (.istore 5, 2) := by decide +kernel
theorem dX9_on_53 : decode cX9_on 53 = .ok (.iconst 0, 1) := by decide +kernel
theorem dX9_on_54 : decode cX9_on 54 = .ok (.istore 6, 2) := by decide +kernel
theorem dX9_on_56 : decode cX9_on 56 = .ok (.iload 6, 2) := by decide +kernel
theorem dX9_on_58 : decode cX9_on 58 = .ok (.bipush 40, 2) := by decide +kernel
theorem dX9_on_60 : decode cX9_on 60 = .ok (.if_icmp .ge 32, 3) := by decide +kernel
theorem dX9_on_63 : decode cX9_on 63 = .ok (.iload 4, 2) := by decide +kernel
theorem dX9_on_65 : decode cX9_on 65 = .ok (.aload_n 0, 1) := by decide +kernel
theorem dX9_on_66 : decode cX9_on 66 = .ok (.getfield 51, 3) := by decide +kernel
theorem dX9_on_69 : decode cX9_on 69 = .ok (.iload 5, 2) := by decide +kernel
theorem dX9_on_71 : decode cX9_on 71 = .ok (.iload 6, 2) := by decide +kernel
theorem dX9_on_73 : decode cX9_on 73 = .ok (.iadd, 1) := by decide +kernel
theorem dX9_on_74 : decode cX9_on 74 = .ok (.baload, 1) := by decide +kernel
theorem dX9_on_75 : decode cX9_on 75 = .ok (.ifCond .eq 7, 3) := by decide +kernel
theorem dX9_on_78 : decode cX9_on 78 = .ok (.iconst 1, 1) := by decide +kernel
theorem dX9_on_79 : decode cX9_on 79 = .ok (.goto 4, 3) := by decide +kernel
theorem dX9_on_82 : decode cX9_on 82 = .ok (.iconst 0, 1) := by decide +kernel
theorem dX9_on_83 : decode cX9_on 83 = .ok (.iadd, 1) := by decide +kernel
theorem dX9_on_84 : decode cX9_on 84 = .ok (.istore 4, 2) := by decide +kernel
theorem dX9_on_86 : decode cX9_on 86 = .ok (.iinc 6 1, 3) := by decide +kernel
theorem dX9_on_89 : decode cX9_on 89 = .ok (.goto (-33), 3) := by decide +kernel
theorem dX9_on_92 : decode cX9_on 92 = .ok (.iload 4, 2) := by decide +kernel
theorem dX9_on_94 : decode cX9_on 94 = .ok (.bipush 8, 2) := by decide +kernel
theorem dX9_on_96 : decode cX9_on 96 = .ok (.if_icmp .ne 9, 3) := by decide +kernel
theorem dX9_on_99 : decode cX9_on 99 = .ok (.aload_n 0, 1) := by decide +kernel
theorem dX9_on_100 : decode cX9_on 100 = .ok (.iconst 3, 1) := by decide +kernel
theorem dX9_on_101 : decode cX9_on 101 = .ok (.invokevirtual 181, 3) := by decide +kernel
theorem dX9_on_104 : decode cX9_on 104 = .ok (.ireturn, 1) := by decide +kernel
theorem dX9_on_105 : decode cX9_on 105 = .ok (.aload_n 0, 1) := by decide +kernel
theorem dX9_on_106 : decode cX9_on 106 = .ok (.getfield 51, 3) := by decide +kernel
theorem dX9_on_109 : decode cX9_on 109 = .ok (.iload 5, 2) := by decide +kernel
theorem dX9_on_111 : decode cX9_on 111 = .ok (.iload_n 3, 1) := by decide +kernel
theorem dX9_on_112 : decode cX9_on 112 = .ok (.iadd, 1) := by decide +kernel
theorem dX9_on_113 : decode cX9_on 113 = .ok (.baload, 1) := by decide +kernel
theorem dX9_on_114 : decode cX9_on 114 = .ok (.ifCond .eq 9, 3) := by decide +kernel
theorem dX9_on_117 : decode cX9_on 117 = .ok (.aload_n 0, 1) := by decide +kernel
theorem dX9_on_118 : decode cX9_on 118 = .ok (.iconst 4, 1) := by decide +kernel
theorem dX9_on_119 : decode cX9_on 119 = .ok (.invokevirtual 181, 3) := by decide +kernel
theorem dX9_on_122 : decode cX9_on 122 = .ok (.ireturn, 1) := by decide +kernel
theorem dX9_on_123 : decode cX9_on 123 = .ok (.aload_n 0, 1) := by decide +kernel
theorem dX9_on_124 : decode cX9_on 124 = .ok (.getfield 51, 3) := by decide +kernel
theorem dX9_on_127 : decode cX9_on 127 = .ok (.iload 5, 2) := by decide +kernel
theorem dX9_on_129 : decode cX9_on 129 = .ok (.iload_n 3, 1) := by decide +kernel
theorem dX9_on_130 : decode cX9_on 130 = .ok (.iadd, 1) := by decide +kernel
theorem dX9_on_131 : decode cX9_on 131 = .ok (.iconst 1, 1) := by decide +kernel
theorem dX9_on_132 : decode cX9_on 132 = .ok (.bastore, 1) := by decide +kernel
theorem dX9_on_133 : decode cX9_on 133 = .ok (.aload_n 0, 1) := by decide +kernel
theorem dX9_on_134 : decode cX9_on 134 = .ok (.iconst 0, 1) := by decide +kernel
theorem dX9_on_135 : decode cX9_on 135 = .ok (.invokevirtual 181, 3) := by decide +kernel
theorem dX9_on_138 : decode cX9_on 138 = .ok (.ireturn, 1) := by decide +kernel
theorem dX9_plain_0 : decode cX9_plain 0 = .ok (.iload_n 1, 1) := by decide +kernel
theorem dX9_plain_1 : decode cX9_plain 1 = .ok (.invokestatic 174, 3) := by decide +kernel
theorem dX9_plain_4 : decode cX9_plain 4 = .ok (.ifCond .ne 9, 3) := by decide +kernel
theorem dX9_plain_7 : decode cX9_plain 7 = .ok (.aload_n 0, 1) := by decide +kernel
theorem dX9_plain_8 : decode cX9_plain 8 = .ok (.iconst 1, 1) := by decide +kernel
theorem dX9_plain_9 : decode cX9_plain 9 = .ok (.invokevirtual 181, 3) := by decide +kernel
theorem dX9_plain_12 : decode cX9_plain 12 = .ok (.ireturn, 1) := by decide +kernel
theorem dX9_plain_13 : decode cX9_plain 13 = .ok (.aload_n 0, 1) := by decide +kernel
theorem dX9_plain_14 : decode cX9_plain 14 = .ok (.getfield 32, 3) := by decide +kernel
theorem dX9_plain_17 : decode cX9_plain 17 = .ok (.iload_n 1, 1) := by decide +kernel
theorem dX9_plain_18 : decode cX9_plain 18 = .ok (.iconst 0, 1) := by decide +kernel
theorem dX9_plain_19 : decode cX9_plain 19 = .ok (.iastore, 1) := by decide +kernel
theorem dX9_plain_20 : decode cX9_plain 20 = .ok (.aload_n 0, 1) := by decide +kernel
theorem dX9_plain_21 : decode cX9_plain 21 = .ok (.getfield 38, 3) := by decide +kernel
theorem dX9_plain_24 : decode cX9_plain 24 = .ok (.iload_n 1, 1) := by decide +kernel
theorem dX9_plain_25 : decode cX9_plain 25 = .ok (.iconst 0, 1) := by decide +kernel
theorem dX9_plain_26 : decode cX9_plain 26 = .ok (.iastore, 1) := by decide +kernel
theorem dX9_plain_27 : decode cX9_plain 27 = .ok (.aload_n 0, 1) := by decide +kernel
theorem dX9_plain_28 : decode cX9_plain 28 = .ok (.iconst 0, 1) := by decide +kernel
theorem dX9_plain_29 : decode cX9_plain 29 = .ok (.invokevirtual 181, 3) := by decide +kernel
theorem dX9_plain_32 : decode cX9_plain 32 = .ok (.ireturn, 1) := by decide +kernel
theorem dX9_strange_0 : decode cX9_strange 0 = .ok (.iload_n 1, 1) := by decide +kernel
theorem dX9_strange_1 : decode cX9_strange 1 = .ok (.invokestatic 174, 3) := by decide +kernel
theorem dX9_strange_4 : decode cX9_strange 4 = .ok (.ifCond .eq 10, 3) := by decide +kernel
theorem dX9_strange_7 : decode cX9_strange 7 = .ok (.iload_n 2, 1) := by decide +kernel
theorem dX9_strange_8 : decode cX9_strange 8 = .ok (.invokestatic 178, 3) := by decide +kernel
theorem dX9_strange_11 : decode cX9_strange 11 = .ok (.ifCond .ne 9, 3) := by decide +kernel
theorem dX9_strange_14 : decode cX9_strange 14 = .ok (.aload_n 0, 1) := by decide +kernel
theorem dX9_strange_15 : decode cX9_strange 15 = .ok (.iconst 1, 1) := by decide +kernel
theorem dX9_strange_16 : decode cX9_strange 16 = .ok (.invokevirtual 181, 3) := by decide +kernel
theorem dX9_strange_19 : decode cX9_strange 19 = .ok (.ireturn, 1) := by decide +kernel
theorem dX9_strange_20 : decode cX9_strange 20 = .ok (.aload_n 0, 1) := by decide +kernel
theorem dX9_strange_21 : decode cX9_strange 21 = .ok (.getfield 45, 3) := by decide +kernel
theorem dX9_strange_24 : decode cX9_strange 24 = .ok (.iload_n 1, 1) := by decide +kernel
theorem dX9_strange_25 : decode cX9_strange 25 = .ok (.iload_n 2, 1) := by decide +kernel
theorem dX9_strange_26 : decode cX9_strange 26 = .ok (.invokestatic 188, 3) := by decide +kernel
theorem dX9_strange_29 : decode cX9_strange 29 = .ok (.baload, 1) := by decide +kernel
theorem dX9_strange_30 : decode cX9_strange 30 = .ok (.iload_n 3, 1) := by decide +kernel
theorem dX9_strange_31 : decode cX9_strange 31 = .ok (.if_icmp .ne 9, 3) := by decide +kernel
theorem dX9_strange_34 : decode cX9_strange 34 = .ok (.aload_n 0, 1) := by decide +kernel
theorem dX9_strange_35 : decode cX9_strange 35 = .ok (.iconst 4, 1) := by decide +kernel
theorem dX9_strange_36 : decode cX9_strange 36 = .ok (.invokevirtual 181, 3) := by decide +kernel
theorem dX9_strange_39 : decode cX9_strange 39 = .ok (.ireturn, 1) := by decide +kernel
theorem dX9_strange_40 : decode cX9_strange 40 = .ok (.aload_n 0, 1) := by decide +kernel
theorem dX9_strange_41 : decode cX9_strange 41 = .ok (.getfield 45, 3) := by decide +kernel
theorem dX9_strange_44 : decode cX9_strange 44 = .ok (.iload_n 1, 1) := by decide +kernel
theorem dX9_strange_45 : decode cX9_strange 45 = .ok (.iload_n 2, 1) := by decide +kernel
theorem dX9_strange_46 : decode cX9_strange 46 = .ok (.invokestatic 188, 3) := by decide +kernel
theorem dX9_strange_49 : decode cX9_strange 49 = .ok (.iload_n 3, 1) := by decide +kernel
theorem dX9_strange_50 : decode cX9_strange 50 = .ok (.bastore, 1) := by decide +kernel
theorem dX9_strange_51 : decode cX9_strange 51 = .ok (.aload_n 0, 1) := by decide +kernel
theorem dX9_strange_52 : decode cX9_strange 52 = .ok (.iconst 0, 1) := by decide +kernel
theorem dX9_strange_53 : decode cX9_strange 53 = .ok (.invokevirtual 181, 3) := by decide +kernel
theorem dX9_strange_56 : decode cX9_strange 56 = .ok (.ireturn, 1) := by decide +kernel
theorem dX9_isStrange_0 : decode cX9_isStrange 0 = .ok (.iload_n 1, 1) := by decide +kernel
theorem dX9_isStrange_1 : decode cX9_isStrange 1 = .ok (.invokestatic 174, 3) := by decide +kernel
theorem dX9_isStrange_4 : decode cX9_isStrange 4 = .ok (.ifCond .eq 10, 3) := by decide +kernel
theorem dX9_isStrange_7 : decode cX9_isStrange 7 = .ok (.iload_n 2, 1) := by decide +kernel
theorem dX9_isStrange_8 : decode cX9_isStrange 8 = .ok (.invokestatic 178, 3) := by decide +kernel
theorem dX9_isStrange_11 : decode cX9_isStrange 11 = .ok (.ifCond .ne 9, 3) := by decide +kernel
theorem dX9_isStrange_14 : decode cX9_isStrange 14 = .ok (.aload_n 0, 1) := by decide +kernel
theorem dX9_isStrange_15 : decode cX9_isStrange 15 = .ok (.iconst 1, 1) := by decide +kernel
theorem dX9_isStrange_16 : decode cX9_isStrange 16 = .ok (.invokevirtual 191, 3) := by decide +kernel
theorem dX9_isStrange_19 : decode cX9_isStrange 19 = .ok (.ireturn, 1) := by decide +kernel
theorem dX9_isStrange_20 : decode cX9_isStrange 20 = .ok (.aload_n 0, 1) := by decide +kernel
theorem dX9_isStrange_21 : decode cX9_isStrange 21 = .ok (.iconst 0, 1) := by decide +kernel
theorem dX9_isStrange_22 : decode cX9_isStrange 22 = .ok (.putfield 82, 3) := by decide +kernel
theorem dX9_isStrange_25 : decode cX9_isStrange 25 = .ok (.aload_n 0, 1) := by decide +kernel
theorem dX9_isStrange_26 : decode cX9_isStrange 26 = .ok (.getfield 45, 3) := by decide +kernel
theorem dX9_isStrange_29 : decode cX9_isStrange 29 = .ok (.iload_n 1, 1) := by decide +kernel
theorem dX9_isStrange_30 : decode cX9_isStrange 30 = .ok (.iload_n 2, 1) := by decide +kernel
theorem dX9_isStrange_31 : decode cX9_isStrange 31 = .ok (.invokestatic 188, 3) := by decide +kernel
theorem dX9_isStrange_34 : decode cX9_isStrange 34 = .ok (.baload, 1) := by decide +kernel
theorem dX9_isStrange_35 : decode cX9_isStrange 35 = .ok (.ifCond .eq 7, 3) := by decide +kernel
theorem dX9_isStrange_38 : decode cX9_isStrange 38 = .ok (.iconst 1, 1) := by decide +kernel
theorem dX9_isStrange_39 : decode cX9_isStrange 39 = .ok (.goto 4, 3) := by decide +kernel
theorem dX9_isStrange_42 : decode cX9_isStrange 42 = .ok (.iconst 0, 1) := by decide +kernel
theorem dX9_isStrange_43 : decode cX9_isStrange 43 = .ok (.ireturn, 1) := by decide +kernel
theorem dX9_look_0 : decode cX9_look 0 = .ok (.aload_n 0, 1) := by decide +kernel
theorem dX9_look_1 : decode cX9_look 1 = .ok (.iconst 0, 1) := by decide +kernel
theorem dX9_look_2 : decode cX9_look 2 = .ok (.putfield 207, 3) := by decide +kernel
theorem dX9_look_5 : decode cX9_look 5 = .ok (.aload_n 0, 1) := by decide +kernel
theorem dX9_look_6 : decode cX9_look 6 = .ok (.iconst 1, 1) := by decide +kernel
theorem dX9_look_7 : decode cX9_look 7 = .ok (.iconst 0, 1) := by decide +kernel
theorem dX9_look_8 : decode cX9_look 8 = .ok (.invokevirtual 210, 3) := by decide +kernel
theorem dX9_look_11 : decode cX9_look 11 = .ok (.aload_n 0, 1) := by decide +kernel
theorem dX9_look_12 : decode cX9_look 12 = .ok (.getfield 48, 3) := by decide +kernel
theorem dX9_look_15 : decode cX9_look 15 = .ok (.iload_n 1, 1) := by decide +kernel
theorem dX9_look_16 : decode cX9_look 16 = .ok (.baload, 1) := by decide +kernel
theorem dX9_look_17 : decode cX9_look 17 = .ok (.ifCond .eq 9, 3) := by decide +kernel
theorem dX9_look_20 : decode cX9_look 20 = .ok (.aload_n 0, 1) := by decide +kernel
theorem dX9_look_21 : decode cX9_look 21 = .ok (.iload_n 2, 1) := by decide +kernel
theorem dX9_look_22 : decode cX9_look 22 = .ok (.iconst 0, 1) := by decide +kernel
theorem dX9_look_23 : decode cX9_look 23 = .ok (.invokevirtual 210, 3) := by decide +kernel
theorem dX9_look_26 : decode cX9_look 26 = .ok (.iconst 0, 1) := by decide +kernel
theorem dX9_look_27 : decode cX9_look 27 = .ok (.istore_n 3, 1) := by decide +kernel
theorem dX9_look_28 : decode cX9_look 28 = .ok (.iload_n 3, 1) := by decide +kernel
theorem dX9_look_29 : decode cX9_look 29 = .ok (.aload_n 0, 1) := by decide +kernel
theorem dX9_look_30 : decode cX9_look 30 = .ok (.getfield 32, 3) := by decide +kernel
theorem dX9_look_33 : decode cX9_look 33 = .ok (.iload_n 1, 1) := by decide +kernel
theorem dX9_look_34 : decode cX9_look 34 = .ok (.iaload, 1) := by decide +kernel
theorem dX9_look_35 : decode cX9_look 35 = .ok (.if_icmp .ge 33, 3) := by decide +kernel
theorem dX9_look_38 : decode cX9_look 38 = .ok (.aload_n 0, 1) := by decide +kernel
theorem dX9_look_39 : decode cX9_look 39 = .ok (.iload_n 2, 1) := by decide +kernel
theorem dX9_look_40 : decode cX9_look 40 = .ok (.aload_n 0, 1) := by decide +kernel
theorem dX9_look_41 : decode cX9_look 41 = .ok (.getfield 35, 3) := by decide +kernel
theorem dX9_look_44 : decode cX9_look 44 = .ok (.iconst 3, 1) := by decide +kernel
theorem dX9_look_45 : decode cX9_look 45 = .ok (.iload_n 1, 1) := by decide +kernel
theorem dX9_look_46 : decode cX9_look 46 = .ok (.imul, 1) := by decide +kernel
theorem dX9_look_47 : decode cX9_look 47 = .ok (.iload_n 3, 1) := by decide +kernel
theorem dX9_look_48 : decode cX9_look 48 = .ok (.iadd, 1) := by decide +kernel
theorem dX9_look_49 : decode cX9_look 49 = .ok (.iaload, 1) := by decide +kernel
theorem dX9_look_50 : decode cX9_look 50 = .ok (.if_icmp .lt 7, 3) := by decide +kernel
theorem dX9_look_53 : decode cX9_look 53 = .ok (.iconst 1, 1) := by decide +kernel
theorem dX9_look_54 : decode cX9_look 54 = .ok (.goto 4, 3) := by decide +kernel
theorem dX9_look_57 : decode cX9_look 57 = .ok (.iconst 0, 1) := by decide +kernel
theorem dX9_look_58 : decode cX9_look 58 = .ok (.iconst 0, 1) := by decide +kernel
theorem dX9_look_59 : decode cX9_look 59 = .ok (.invokevirtual 210, 3) := by decide +kernel
theorem dX9_look_62 : decode cX9_look 62 = .ok (.iinc 3 1, 3) := by decide +kernel
theorem dX9_look_65 : decode cX9_look 65 = .ok (.goto (-37), 3) := by decide +kernel
theorem dX9_look_68 : decode cX9_look 68 = .ok (.iconst 0, 1) := by decide +kernel
theorem dX9_look_69 : decode cX9_look 69 = .ok (.istore_n 3, 1) := by decide +kernel
theorem dX9_look_70 : decode cX9_look 70 = .ok (.iload_n 3, 1) := by decide +kernel
theorem dX9_look_71 : decode cX9_look 71 = .ok (.aload_n 0, 1) := by decide +kernel
theorem dX9_look_72 : decode cX9_look 72 = .ok (.getfield 38, 3) := by decide +kernel
theorem dX9_look_75 : decode cX9_look 75 = .ok (.iload_n 1, 1) := by decide +kernel
theorem dX9_look_76 : decode cX9_look 76 = .ok (.iaload, 1) := by decide +kernel
theorem dX9_look_77 : decode cX9_look 77 = .ok (.if_icmp .ge 43, 3) := by decide +kernel
theorem dX9_look_80 : decode cX9_look 80 = .ok (.aload_n 0, 1) := by decide +kernel
theorem dX9_look_81 : decode cX9_look 81 = .ok (.iload_n 2, 1) := by decide +kernel
theorem dX9_look_82 : decode cX9_look 82 = .ok (.bipush 40, 2) := by decide +kernel
theorem dX9_look_84 : decode cX9_look 84 = .ok (.if_icmp .ge 25, 3) := by decide +kernel
theorem dX9_look_87 : decode cX9_look 87 = .ok (.aload_n 0, 1) := by decide +kernel
theorem dX9_look_88 : decode cX9_look 88 = .ok (.getfield 51, 3) := by decide +kernel
theorem dX9_look_91 : decode cX9_look 91 = .ok (.bipush 40, 2) := by decide +kernel
theorem dX9_look_93 : decode cX9_look 93 = .ok (.iconst 2, 1) := by decide +kernel
theorem dX9_look_94 : decode cX9_look 94 = .ok (.iload_n 1, 1) := by decide +kernel
theorem dX9_look_95 : decode cX9_look 95 = .ok (.imul, 1) := by decide +kernel
theorem dX9_look_96 : decode cX9_look 96 = .ok (.iload_n 3, 1) := by decide +kernel
theorem dX9_look_97 : decode cX9_look 97 = .ok (.iadd, 1) := by decide +kernel
theorem dX9_look_98 : decode cX9_look 98 = .ok (.imul, 1) := by decide +kernel
theorem dX9_look_99 : decode cX9_look 99 = .ok (.iload_n 2, 1) := by decide +kernel
theorem dX9_look_100 : decode cX9_look 100 = .ok (.iadd, 1) := by decide +kernel
theorem dX9_look_101 : decode cX9_look 101 = .ok (.baload, 1) := by decide +kernel
theorem dX9_look_102 : decode cX9_look 102 = .ok (.ifCond .eq 7, 3) := by decide +kernel
theorem dX9_look_105 : decode cX9_look 105 = .ok (.iconst 1, 1) := by decide +kernel
theorem dX9_look_106 : decode cX9_look 106 = .ok (.goto 4, 3) := by decide +kernel
theorem dX9_look_109 : decode cX9_look 109 = .ok (.iconst 0, 1) := by decide +kernel
theorem dX9_look_110 : decode cX9_look 110 = .ok (.iconst 2, 1) := by decide +kernel
theorem dX9_look_111 : decode cX9_look 111 = .ok (.invokevirtual 210, 3) := by decide +kernel
theorem dX9_look_114 : decode cX9_look 114 = .ok (.iinc 3 1, 3) := by decide +kernel
theorem dX9_look_117 : decode cX9_look 117 = .ok (.goto (-47), 3) := by decide +kernel
theorem dX9_look_120 : decode cX9_look 120 = .ok (.aload_n 0, 1) := by decide +kernel
theorem dX9_look_121 : decode cX9_look 121 = .ok (.getfield 29, 3) := by decide +kernel
theorem dX9_look_124 : decode cX9_look 124 = .ok (.iload_n 1, 1) := by decide +kernel
theorem dX9_look_125 : decode cX9_look 125 = .ok (.iaload, 1) := by decide +kernel
theorem dX9_look_126 : decode cX9_look 126 = .ok (.istore_n 3, 1) := by decide +kernel
theorem dX9_look_127 : decode cX9_look 127 = .ok (.iconst 0, 1) := by decide +kernel
theorem dX9_look_128 : decode cX9_look 128 = .ok (.istore 4, 2) := by decide +kernel
theorem dX9_look_130 : decode cX9_look 130 = .ok (.iload 4, 2) := by decide +kernel
theorem dX9_look_132 : decode cX9_look 132 = .ok (.iload_n 3, 1) := by decide +kernel
theorem dX9_look_133 : decode cX9_look 133 = .ok (.iconst 1, 1) := by decide +kernel
theorem dX9_look_134 : decode cX9_look 134 = .ok (.isub, 1) := by decide +kernel
theorem dX9_look_135 : decode cX9_look 135 = .ok (.if_icmp .ge 40, 3) := by decide +kernel
theorem dX9_look_138 : decode cX9_look 138 = .ok (.aload_n 0, 1) := by decide +kernel
theorem dX9_look_139 : decode cX9_look 139 = .ok (.iload_n 2, 1) := by decide +kernel
theorem dX9_look_140 : decode cX9_look 140 = .ok (.iload_n 3, 1) := by decide +kernel
theorem dX9_look_141 : decode cX9_look 141 = .ok (.irem, 1) := by decide +kernel
theorem dX9_look_142 : decode cX9_look 142 = .ok (.iload 4, 2) := by decide +kernel
theorem dX9_look_144 : decode cX9_look 144 = .ok (.if_icmp .ne 7, 3) := by decide +kernel
theorem dX9_look_147 : decode cX9_look 147 = .ok (.iconst 1, 1) := by decide +kernel
theorem dX9_look_148 : decode cX9_look 148 = .ok (.goto 17, 3) := by decide +kernel
theorem dX9_look_151 : decode cX9_look 151 = .ok (.iload_n 2, 1) := by decide +kernel
theorem dX9_look_152 : decode cX9_look 152 = .ok (.iload_n 3, 1) := by decide +kernel
theorem dX9_look_153 : decode cX9_look 153 = .ok (.irem, 1) := by decide +kernel
theorem dX9_look_154 : decode cX9_look 154 = .ok (.iload_n 3, 1) := by decide +kernel
theorem dX9_look_155 : decode cX9_look 155 = .ok (.iconst 1, 1) := by decide +kernel
theorem dX9_look_156 : decode cX9_look 156 = .ok (.isub, 1) := by decide +kernel
theorem dX9_look_157 : decode cX9_look 157 = .ok (.if_icmp .ne 7, 3) := by decide +kernel
theorem dX9_look_160 : decode cX9_look 160 = .ok (.iconst (-1), 1) := by decide +kernel
theorem dX9_look_161 : decode cX9_look 161 = .ok (.goto 4, 3) := by decide +kernel
theorem dX9_look_164 : decode cX9_look 164 = .ok (.iconst 0, 1) := by decide +kernel
theorem dX9_look_165 : decode cX9_look 165 = .ok (.iconst 1, 1) := by decide +kernel
theorem dX9_look_166 : decode cX9_look 166 = .ok (.invokevirtual 210, 3) := by decide +kernel
theorem dX9_look_169 : decode cX9_look 169 = .ok (.iinc 4 1, 3) := by decide +kernel
theorem dX9_look_172 : decode cX9_look 172 = .ok (.goto (-42), 3) := by decide +kernel
theorem dX9_look_175 : decode cX9_look 175 = .ok (.return_, 1) := by decide +kernel
theorem dX9_part0_0 : decode cX9_part0 0 = .ok (.aload_n 0, 1) := by decide +kernel
theorem dX9_part0_1 : decode cX9_part0 1 = .ok (.getfield 54, 3) := by decide +kernel
theorem dX9_part0_4 : decode cX9_part0 4 = .ok (.aload_n 0, 1) := by decide +kernel
theorem dX9_part0_5 : decode cX9_part0 5 = .ok (.getfield 207, 3) := by decide +kernel
theorem dX9_part0_8 : decode cX9_part0 8 = .ok (.iload_n 1, 1) := by decide +kernel
theorem dX9_part0_9 : decode cX9_part0 9 = .ok (.iastore, 1) := by decide +kernel
theorem dX9_part0_10 : decode cX9_part0 10 = .ok (.aload_n 0, 1) := by decide +kernel
theorem dX9_part0_11 : decode cX9_part0 11 = .ok (.getfield 57, 3) := by decide +kernel
theorem dX9_part0_14 : decode cX9_part0 14 = .ok (.aload_n 0, 1) := by decide +kernel
theorem dX9_part0_15 : decode cX9_part0 15 = .ok (.getfield 207, 3) := by decide +kernel
theorem dX9_part0_18 : decode cX9_part0 18 = .ok (.iload_n 2, 1) := by decide +kernel
theorem dX9_part0_19 : decode cX9_part0 19 = .ok (.iastore, 1) := by decide +kernel
theorem dX9_part0_20 : decode cX9_part0 20 = .ok (.aload_n 0, 1) := by decide +kernel
theorem dX9_part0_21 : decode cX9_part0 21 = .ok (.dup, 1) := by decide +kernel
theorem dX9_part0_22 : decode cX9_part0 22 = .ok (.getfield 207, 3) := by decide +kernel
theorem dX9_part0_25 : decode cX9_part0 25 = .ok (.iconst 1, 1) := by decide +kernel
theorem dX9_part0_26 : decode cX9_part0 26 = .ok (.iadd, 1) := by decide +kernel
theorem dX9_part0_27 : decode cX9_part0 27 = .ok (.putfield 207, 3) := by decide +kernel
theorem dX9_part0_30 : decode cX9_part0 30 = .ok (.return_, 1) := by decide +kernel
theorem dX9_gather_0 : decode cX9_gather 0 = .ok (.aload_n 0, 1) := by decide +kernel
theorem dX9_gather_1 : decode cX9_gather 1 = .ok (.iload_n 1, 1) := by decide +kernel
theorem dX9_gather_2 : decode cX9_gather 2 = .ok (.iconst 0, 1) := by decide +kernel
theorem dX9_gather_3 : decode cX9_gather 3 = .ok (.invokevirtual 213, 3) := by decide +kernel
theorem dX9_gather_6 : decode cX9_gather 6 = .ok (.iconst 0, 1) := by decide +kernel
theorem dX9_gather_7 : decode cX9_gather 7 = .ok (.istore_n 2, 1) := by decide +kernel
theorem dX9_gather_8 : decode cX9_gather 8 = .ok (.iload_n 2, 1) := by decide +kernel
theorem dX9_gather_9 : decode cX9_gather 9 = .ok (.aload_n 0, 1) := by decide +kernel
theorem dX9_gather_10 : decode cX9_gather 10 = .ok (.getfield 207, 3) := by decide +kernel
theorem dX9_gather_13 : decode cX9_gather 13 = .ok (.if_icmp .ge 44, 3) := by decide +kernel
theorem dX9_gather_16 : decode cX9_gather 16 = .ok (.aload_n 0, 1) := by decide +kernel
theorem dX9_gather_17 : decode cX9_gather 17 = .ok (.getfield 64, 3) := by decide +kernel
theorem dX9_gather_20 : decode cX9_gather 20 = .ok (.iload_n 2, 1) := by decide +kernel
theorem dX9_gather_21 : decode cX9_gather 21 = .ok (.lconst 0, 1) := by decide +kernel
theorem dX9_gather_22 : decode cX9_gather 22 = .ok (.lastore, 1) := by decide +kernel
theorem dX9_gather_23 : decode cX9_gather 23 = .ok (.iconst 0, 1) := by decide +kernel
theorem dX9_gather_24 : decode cX9_gather 24 = .ok (.istore_n 3, 1) := by decide +kernel
theorem dX9_gather_25 : decode cX9_gather 25 = .ok (.iload_n 3, 1) := by decide +kernel
theorem dX9_gather_26 : decode cX9_gather 26 = .ok (.aload_n 0, 1) := by decide +kernel
theorem dX9_gather_27 : decode cX9_gather 27 = .ok (.getfield 207, 3) := by decide +kernel
theorem dX9_gather_30 : decode cX9_gather 30 = .ok (.if_icmp .ge 21, 3) := by decide +kernel
theorem dX9_gather_33 : decode cX9_gather 33 = .ok (.aload_n 0, 1) := by decide +kernel
theorem dX9_gather_34 : decode cX9_gather 34 = .ok (.getfield 60, 3) := by decide +kernel
theorem dX9_gather_37 : decode cX9_gather 37 = .ok (.bipush 19, 2) := by decide +kernel
theorem dX9_gather_39 : decode cX9_gather 39 = .ok (.iload_n 2, 1) := by decide +kernel
theorem dX9_gather_40 : decode cX9_gather 40 = .ok (.imul, 1) := by decide +kernel
theorem dX9_gather_41 : decode cX9_gather 41 = .ok (.iload_n 3, 1) := by decide +kernel
theorem dX9_gather_42 : decode cX9_gather 42 = .ok (.iadd, 1) := by decide +kernel
theorem dX9_gather_43 : decode cX9_gather 43 = .ok (.lconst 0, 1) := by decide +kernel
theorem dX9_gather_44 : decode cX9_gather 44 = .ok (.lastore, 1) := by decide +kernel
theorem dX9_gather_45 : decode cX9_gather 45 = .ok (.iinc 3 1, 3) := by decide +kernel
theorem dX9_gather_48 : decode cX9_gather 48 = .ok (.goto (-23), 3) := by decide +kernel
theorem dX9_gather_51 : decode cX9_gather 51 = .ok (.iinc 2 1, 3) := by decide +kernel
theorem dX9_gather_54 : decode cX9_gather 54 = .ok (.goto (-46), 3) := by decide +kernel
theorem dX9_gather_57 : decode cX9_gather 57 = .ok (.aload_n 0, 1) := by decide +kernel
theorem dX9_gather_58 : decode cX9_gather 58 = .ok (.lconst 0, 1) := by decide +kernel
theorem dX9_gather_59 : decode cX9_gather 59 = .ok (.putfield 216, 3) := by decide +kernel
theorem dX9_gather_62 : decode cX9_gather 62 = .ok (.iconst 0, 1) := by decide +kernel
theorem dX9_gather_63 : decode cX9_gather 63 = .ok (.istore_n 2, 1) := by decide +kernel
theorem dX9_gather_64 : decode cX9_gather 64 = .ok (.iload_n 2, 1) := by decide +kernel
theorem dX9_gather_65 : decode cX9_gather 65 = .ok (.bipush 40, 2) := by decide +kernel
theorem dX9_gather_67 : decode cX9_gather 67 = .ok (.if_icmp .ge 140, 3) := by decide +kernel
theorem dX9_gather_70 : decode cX9_gather 70 = .ok (.aload_n 0, 1) := by decide +kernel
theorem dX9_gather_71 : decode cX9_gather 71 = .ok (.iload_n 1, 1) := by decide +kernel
theorem dX9_gather_72 : decode cX9_gather 72 = .ok (.iload_n 2, 1) := by decide +kernel
theorem dX9_gather_73 : decode cX9_gather 73 = .ok (.invokevirtual 194, 3) := by decide +kernel
theorem dX9_gather_76 : decode cX9_gather 76 = .ok (.ifCond .ne 6, 3) := by decide +kernel
theorem dX9_gather_79 : decode cX9_gather 79 = .ok (.goto 122, 3) := by decide +kernel
theorem dX9_gather_82 : decode cX9_gather 82 = .ok (.aload_n 0, 1) := by decide +kernel
theorem dX9_gather_83 : decode cX9_gather 83 = .ok (.iload_n 1, 1) := by decide +kernel
theorem dX9_gather_84 : decode cX9_gather 84 = .ok (.iload_n 2, 1) := by decide +kernel
theorem dX9_gather_85 : decode cX9_gather 85 = .ok (.invokevirtual 213, 3) := by decide +kernel
theorem dX9_gather_88 : decode cX9_gather 88 = .ok (.aload_n 0, 1) := by decide +kernel
theorem dX9_gather_89 : decode cX9_gather 89 = .ok (.getfield 26, 3) := by decide +kernel
theorem dX9_gather_92 : decode cX9_gather 92 = .ok (.iload_n 1, 1) := by decide +kernel
theorem dX9_gather_93 : decode cX9_gather 93 = .ok (.iload_n 2, 1) := by decide +kernel
theorem dX9_gather_94 : decode cX9_gather 94 = .ok (.invokestatic 188, 3) := by decide +kernel
theorem dX9_gather_97 : decode cX9_gather 97 = .ok (.iaload, 1) := by decide +kernel
theorem dX9_gather_98 : decode cX9_gather 98 = .ok (.i2l, 1) := by decide +kernel
theorem dX9_gather_99 : decode cX9_gather 99 = .ok (.lstore_n 3, 1) := by decide +kernel
theorem dX9_gather_100 : decode cX9_gather 100 = .ok (.aload_n 0, 1) := by decide +kernel
theorem dX9_gather_101 : decode cX9_gather 101 = .ok (.dup, 1) := by decide +kernel
theorem dX9_gather_102 : decode cX9_gather 102 = .ok (.getfield 216, 3) := by decide +kernel
theorem dX9_gather_105 : decode cX9_gather 105 = .ok (.lload_n 3, 1) := by decide +kernel
theorem dX9_gather_106 : decode cX9_gather 106 = .ok (.lload_n 3, 1) := by decide +kernel
theorem dX9_gather_107 : decode cX9_gather 107 = .ok (.lmul, 1) := by decide +kernel
theorem dX9_gather_108 : decode cX9_gather 108 = .ok (.ladd, 1) := by decide +kernel
theorem dX9_gather_109 : decode cX9_gather 109 = .ok (.putfield 216, 3) := by decide +kernel
theorem dX9_gather_112 : decode cX9_gather 112 = .ok (.iconst 0, 1) := by decide +kernel
theorem dX9_gather_113 : decode cX9_gather 113 = .ok (.istore 5, 2) := by decide +kernel
theorem dX9_gather_115 : decode cX9_gather 115 = .ok (.iload 5, 2) := by decide +kernel
theorem dX9_gather_117 : decode cX9_gather 117 = .ok (.aload_n 0, 1) := by decide +kernel
theorem dX9_gather_118 : decode cX9_gather 118 = .ok (.getfield 207, 3) := by decide +kernel
theorem dX9_gather_121 : decode cX9_gather 121 = .ok (.if_icmp .ge 80, 3) := by decide +kernel
theorem dX9_gather_124 : decode cX9_gather 124 = .ok (.aload_n 0, 1) := by decide +kernel
theorem dX9_gather_125 : decode cX9_gather 125 = .ok (.getfield 64, 3) := by decide +kernel
theorem dX9_gather_128 : decode cX9_gather 128 = .ok (.iload 5, 2) := by decide +kernel
theorem dX9_gather_130 : decode cX9_gather 130 = .ok (.dup2, 1) := by decide +kernel
theorem dX9_gather_131 : decode cX9_gather 131 = .ok (.laload, 1) := by decide +kernel
theorem dX9_gather_132 : decode cX9_gather 132 = .ok (.lload_n 3, 1) := by decide +kernel
theorem dX9_gather_133 : decode cX9_gather 133 = .ok (.aload_n 0, 1) := by decide +kernel
theorem dX9_gather_134 : decode cX9_gather 134 = .ok (.getfield 54, 3) := by decide +kernel
theorem dX9_gather_137 : decode cX9_gather 137 = .ok (.iload 5, 2) := by decide +kernel
theorem dX9_gather_139 : decode cX9_gather 139 = .ok (.iaload, 1) := by decide +kernel
theorem dX9_gather_140 : decode cX9_gather 140 = .ok (.i2l, 1) := by decide +kernel
theorem dX9_gather_141 : decode cX9_gather 141 = .ok (.lmul, 1) := by decide +kernel
theorem dX9_gather_142 : decode cX9_gather 142 = .ok (.ladd, 1) := by decide +kernel
theorem dX9_gather_143 : decode cX9_gather 143 = .ok (.lastore, 1) := by decide +kernel
theorem dX9_gather_144 : decode cX9_gather 144 = .ok (.iconst 0, 1) := by decide +kernel
theorem dX9_gather_145 : decode cX9_gather 145 = .ok (.istore 6, 2) := by decide +kernel
theorem dX9_gather_147 : decode cX9_gather 147 = .ok (.iload 6, 2) := by decide +kernel
theorem dX9_gather_149 : decode cX9_gather 149 = .ok (.aload_n 0, 1) := by decide +kernel
theorem dX9_gather_150 : decode cX9_gather 150 = .ok (.getfield 207, 3) := by decide +kernel
theorem dX9_gather_153 : decode cX9_gather 153 = .ok (.if_icmp .ge 42, 3) := by decide +kernel
theorem dX9_gather_156 : decode cX9_gather 156 = .ok (.aload_n 0, 1) := by decide +kernel
theorem dX9_gather_157 : decode cX9_gather 157 = .ok (.getfield 60, 3) := by decide +kernel
theorem dX9_gather_160 : decode cX9_gather 160 = .ok (.bipush 19, 2) := by decide +kernel
theorem dX9_gather_162 : decode cX9_gather 162 = .ok (.iload 5, 2) := by decide +kernel
theorem dX9_gather_164 : decode cX9_gather 164 = .ok (.imul, 1) := by decide +kernel
theorem dX9_gather_165 : decode cX9_gather 165 = .ok (.iload 6, 2) := by decide +kernel
theorem dX9_gather_167 : decode cX9_gather 167 = .ok (.iadd, 1) := by decide +kernel
theorem dX9_gather_168 : decode cX9_gather 168 = .ok (.dup2, 1) := by decide +kernel
theorem dX9_gather_169 : decode cX9_gather 169 = .ok (.laload, 1) := by decide +kernel
theorem dX9_gather_170 : decode cX9_gather 170 = .ok (.aload_n 0, 1) := by decide +kernel
theorem dX9_gather_171 : decode cX9_gather 171 = .ok (.getfield 54, 3) := by decide +kernel
theorem dX9_gather_174 : decode cX9_gather 174 = .ok (.iload 5, 2) := by decide +kernel
theorem dX9_gather_176 : decode cX9_gather 176 = .ok (.iaload, 1) := by decide +kernel
theorem dX9_gather_177 : decode cX9_gather 177 = .ok (.i2l, 1) := by decide +kernel
theorem dX9_gather_178 : decode cX9_gather 178 = .ok (.aload_n 0, 1) := by decide +kernel
theorem dX9_gather_179 : decode cX9_gather 179 = .ok (.getfield 54, 3) := by decide +kernel
theorem dX9_gather_182 : decode cX9_gather 182 = .ok (.iload 6, 2) := by decide +kernel
theorem dX9_gather_184 : decode cX9_gather 184 = .ok (.iaload, 1) := by decide +kernel
theorem dX9_gather_185 : decode cX9_gather 185 = .ok (.i2l, 1) := by decide +kernel
theorem dX9_gather_186 : decode cX9_gather 186 = .ok (.lmul, 1) := by decide +kernel
theorem dX9_gather_187 : decode cX9_gather 187 = .ok (.ladd, 1) := by decide +kernel
theorem dX9_gather_188 : decode cX9_gather 188 = .ok (.lastore, 1) := by decide +kernel
theorem dX9_gather_189 : decode cX9_gather 189 = .ok (.iinc 6 1, 3) := by decide +kernel
theorem dX9_gather_192 : decode cX9_gather 192 = .ok (.goto (-45), 3) := by decide +kernel
theorem dX9_gather_195 : decode cX9_gather 195 = .ok (.iinc 5 1, 3) := by decide +kernel
theorem dX9_gather_198 : decode cX9_gather 198 = .ok (.goto (-83), 3) := by decide +kernel
theorem dX9_gather_201 : decode cX9_gather 201 = .ok (.iinc 2 1, 3) := by decide +kernel
theorem dX9_gather_204 : decode cX9_gather 204 = .ok (.goto (-140), 3) := by decide +kernel
theorem dX9_gather_207 : decode cX9_gather 207 = .ok (.return_, 1) := by decide +kernel
theorem dX9_keep_0 : decode cX9_keep 0 = .ok (.iconst 0, 1) := by decide +kernel
theorem dX9_keep_1 : decode cX9_keep 1 = .ok (.istore_n 3, 1) := by decide +kernel
theorem dX9_keep_2 : decode cX9_keep 2 = .ok (.iload_n 3, 1) := by decide +kernel
theorem dX9_keep_3 : decode cX9_keep 3 = .ok (.aload_n 0, 1) := by decide +kernel
theorem dX9_keep_4 : decode cX9_keep 4 = .ok (.iload_n 2, 1) := by decide +kernel
theorem dX9_keep_5 : decode cX9_keep 5 = .ok (.invokevirtual 99, 3) := by decide +kernel
theorem dX9_keep_8 : decode cX9_keep 8 = .ok (.if_icmp .gt 28, 3) := by decide +kernel
theorem dX9_keep_11 : decode cX9_keep 11 = .ok (.aload_n 0, 1) := by decide +kernel
theorem dX9_keep_12 : decode cX9_keep 12 = .ok (.getfield 70, 3) := by decide +kernel
theorem dX9_keep_15 : decode cX9_keep 15 = .ok (.bipush 60, 2) := by decide +kernel
theorem dX9_keep_17 : decode cX9_keep 17 = .ok (.iload_n 1, 1) := by decide +kernel
theorem dX9_keep_18 : decode cX9_keep 18 = .ok (.imul, 1) := by decide +kernel
theorem dX9_keep_19 : decode cX9_keep 19 = .ok (.iload_n 3, 1) := by decide +kernel
theorem dX9_keep_20 : decode cX9_keep 20 = .ok (.iadd, 1) := by decide +kernel
theorem dX9_keep_21 : decode cX9_keep 21 = .ok (.aload_n 0, 1) := by decide +kernel
theorem dX9_keep_22 : decode cX9_keep 22 = .ok (.getfield 8, 3) := by decide +kernel
theorem dX9_keep_25 : decode cX9_keep 25 = .ok (.iload_n 2, 1) := by decide +kernel
theorem dX9_keep_26 : decode cX9_keep 26 = .ok (.iload_n 3, 1) := by decide +kernel
theorem dX9_keep_27 : decode cX9_keep 27 = .ok (.iadd, 1) := by decide +kernel
theorem dX9_keep_28 : decode cX9_keep 28 = .ok (.iaload, 1) := by decide +kernel
theorem dX9_keep_29 : decode cX9_keep 29 = .ok (.iastore, 1) := by decide +kernel
theorem dX9_keep_30 : decode cX9_keep 30 = .ok (.iinc 3 1, 3) := by decide +kernel
theorem dX9_keep_33 : decode cX9_keep 33 = .ok (.goto (-31), 3) := by decide +kernel
theorem dX9_keep_36 : decode cX9_keep 36 = .ok (.return_, 1) := by decide +kernel
theorem dX9_held_0 : decode cX9_held 0 = .ok (.bipush 60, 2) := by decide +kernel
theorem dX9_held_2 : decode cX9_held 2 = .ok (.iload_n 1, 1) := by decide +kernel
theorem dX9_held_3 : decode cX9_held 3 = .ok (.imul, 1) := by decide +kernel
theorem dX9_held_4 : decode cX9_held 4 = .ok (.istore_n 2, 1) := by decide +kernel
theorem dX9_held_5 : decode cX9_held 5 = .ok (.aload_n 0, 1) := by decide +kernel
theorem dX9_held_6 : decode cX9_held 6 = .ok (.getfield 70, 3) := by decide +kernel
theorem dX9_held_9 : decode cX9_held 9 = .ok (.iload_n 2, 1) := by decide +kernel
theorem dX9_held_10 : decode cX9_held 10 = .ok (.iaload, 1) := by decide +kernel
theorem dX9_held_11 : decode cX9_held 11 = .ok (.ifCond .ge 13, 3) := by decide +kernel
theorem dX9_held_14 : decode cX9_held 14 = .ok (.aload_n 0, 1) := by decide +kernel
theorem dX9_held_15 : decode cX9_held 15 = .ok (.getfield 70, 3) := by decide +kernel
theorem dX9_held_18 : decode cX9_held 18 = .ok (.iload_n 2, 1) := by decide +kernel
theorem dX9_held_19 : decode cX9_held 19 = .ok (.iaload, 1) := by decide +kernel
theorem dX9_held_20 : decode cX9_held 20 = .ok (.ineg, 1) := by decide +kernel
theorem dX9_held_21 : decode cX9_held 21 = .ok (.goto 9, 3) := by decide +kernel
theorem dX9_held_24 : decode cX9_held 24 = .ok (.aload_n 0, 1) := by decide +kernel
theorem dX9_held_25 : decode cX9_held 25 = .ok (.getfield 70, 3) := by decide +kernel
theorem dX9_held_28 : decode cX9_held 28 = .ok (.iload_n 2, 1) := by decide +kernel
theorem dX9_held_29 : decode cX9_held 29 = .ok (.iaload, 1) := by decide +kernel
theorem dX9_held_30 : decode cX9_held 30 = .ok (.istore_n 3, 1) := by decide +kernel
theorem dX9_held_31 : decode cX9_held 31 = .ok (.aload_n 0, 1) := by decide +kernel
theorem dX9_held_32 : decode cX9_held 32 = .ok (.iload_n 3, 1) := by decide +kernel
theorem dX9_held_33 : decode cX9_held 33 = .ok (.invokevirtual 89, 3) := by decide +kernel
theorem dX9_held_36 : decode cX9_held 36 = .ok (.istore 4, 2) := by decide +kernel
theorem dX9_held_38 : decode cX9_held 38 = .ok (.iconst 0, 1) := by decide +kernel
theorem dX9_held_39 : decode cX9_held 39 = .ok (.istore 5, 2) := by decide +kernel
theorem dX9_held_41 : decode cX9_held 41 = .ok (.iload 5, 2) := by decide +kernel
theorem dX9_held_43 : decode cX9_held 43 = .ok (.iload_n 3, 1) := by decide +kernel
theorem dX9_held_44 : decode cX9_held 44 = .ok (.if_icmp .gt 28, 3) := by decide +kernel
theorem dX9_held_47 : decode cX9_held 47 = .ok (.aload_n 0, 1) := by decide +kernel
theorem dX9_held_48 : decode cX9_held 48 = .ok (.getfield 8, 3) := by decide +kernel
theorem dX9_held_51 : decode cX9_held 51 = .ok (.iload 4, 2) := by decide +kernel
theorem dX9_held_53 : decode cX9_held 53 = .ok (.iload 5, 2) := by decide +kernel
theorem dX9_held_55 : decode cX9_held 55 = .ok (.iadd, 1) := by decide +kernel
theorem dX9_held_56 : decode cX9_held 56 = .ok (.aload_n 0, 1) := by decide +kernel
theorem dX9_held_57 : decode cX9_held 57 = .ok (.getfield 70, 3) := by decide +kernel
theorem dX9_held_60 : decode cX9_held 60 = .ok (.iload_n 2, 1) := by decide +kernel
theorem dX9_held_61 : decode cX9_held 61 = .ok (.iload 5, 2) := by decide +kernel
theorem dX9_held_63 : decode cX9_held 63 = .ok (.iadd, 1) := by decide +kernel
theorem dX9_held_64 : decode cX9_held 64 = .ok (.iaload, 1) := by decide +kernel
theorem dX9_held_65 : decode cX9_held 65 = .ok (.iastore, 1) := by decide +kernel
theorem dX9_held_66 : decode cX9_held 66 = .ok (.iinc 5 1, 3) := by decide +kernel
theorem dX9_held_69 : decode cX9_held 69 = .ok (.goto (-28), 3) := by decide +kernel
theorem dX9_held_72 : decode cX9_held 72 = .ok (.iload 4, 2) := by decide +kernel
theorem dX9_held_74 : decode cX9_held 74 = .ok (.ireturn, 1) := by decide +kernel
theorem dX9_clear_0 : decode cX9_clear 0 = .ok (.aload_n 0, 1) := by decide +kernel
theorem dX9_clear_1 : decode cX9_clear 1 = .ok (.iconst 0, 1) := by decide +kernel
theorem dX9_clear_2 : decode cX9_clear 2 = .ok (.putfield 86, 3) := by decide +kernel
theorem dX9_clear_5 : decode cX9_clear 5 = .ok (.iconst 0, 1) := by decide +kernel
theorem dX9_clear_6 : decode cX9_clear 6 = .ok (.istore_n 1, 1) := by decide +kernel
theorem dX9_clear_7 : decode cX9_clear 7 = .ok (.iload_n 1, 1) := by decide +kernel
theorem dX9_clear_8 : decode cX9_clear 8 = .ok (.aload_n 0, 1) := by decide +kernel
theorem dX9_clear_9 : decode cX9_clear 9 = .ok (.getfield 207, 3) := by decide +kernel
theorem dX9_clear_12 : decode cX9_clear 12 = .ok (.if_icmp .ge 73, 3) := by decide +kernel
theorem dX9_clear_15 : decode cX9_clear 15 = .ok (.iconst 0, 1) := by decide +kernel
theorem dX9_clear_16 : decode cX9_clear 16 = .ok (.istore_n 2, 1) := by decide +kernel
theorem dX9_clear_17 : decode cX9_clear 17 = .ok (.iload_n 2, 1) := by decide +kernel
theorem dX9_clear_18 : decode cX9_clear 18 = .ok (.aload_n 0, 1) := by decide +kernel
theorem dX9_clear_19 : decode cX9_clear 19 = .ok (.getfield 207, 3) := by decide +kernel
theorem dX9_clear_22 : decode cX9_clear 22 = .ok (.if_icmp .ge 35, 3) := by decide +kernel
theorem dX9_clear_25 : decode cX9_clear 25 = .ok (.aload_n 0, 1) := by decide +kernel
theorem dX9_clear_26 : decode cX9_clear 26 = .ok (.getfield 67, 3) := by decide +kernel
theorem dX9_clear_29 : decode cX9_clear 29 = .ok (.bipush 20, 2) := by decide +kernel
theorem dX9_clear_31 : decode cX9_clear 31 = .ok (.iload_n 1, 1) := by decide +kernel
theorem dX9_clear_32 : decode cX9_clear 32 = .ok (.imul, 1) := by decide +kernel
theorem dX9_clear_33 : decode cX9_clear 33 = .ok (.iload_n 2, 1) := by decide +kernel
theorem dX9_clear_34 : decode cX9_clear 34 = .ok (.iadd, 1) := by decide +kernel
theorem dX9_clear_35 : decode cX9_clear 35 = .ok (.aload_n 0, 1) := by decide +kernel
theorem dX9_clear_36 : decode cX9_clear 36 = .ok (.aload_n 0, 1) := by decide +kernel
theorem dX9_clear_37 : decode cX9_clear 37 = .ok (.getfield 60, 3) := by decide +kernel
theorem dX9_clear_40 : decode cX9_clear 40 = .ok (.bipush 19, 2) := by decide +kernel
theorem dX9_clear_42 : decode cX9_clear 42 = .ok (.iload_n 1, 1) := by decide +kernel
theorem dX9_clear_43 : decode cX9_clear 43 = .ok (.imul, 1) := by decide +kernel
theorem dX9_clear_44 : decode cX9_clear 44 = .ok (.iload_n 2, 1) := by decide +kernel
theorem dX9_clear_45 : decode cX9_clear 45 = .ok (.iadd, 1) := by decide +kernel
theorem dX9_clear_46 : decode cX9_clear 46 = .ok (.laload, 1) := by decide +kernel
theorem dX9_clear_47 : decode cX9_clear 47 = .ok (.invokevirtual 118, 3) := by decide +kernel
theorem dX9_clear_50 : decode cX9_clear 50 = .ok (.iastore, 1) := by decide +kernel
theorem dX9_clear_51 : decode cX9_clear 51 = .ok (.iinc 2 1, 3) := by decide +kernel
theorem dX9_clear_54 : decode cX9_clear 54 = .ok (.goto (-37), 3) := by decide +kernel
theorem dX9_clear_57 : decode cX9_clear 57 = .ok (.aload_n 0, 1) := by decide +kernel
theorem dX9_clear_58 : decode cX9_clear 58 = .ok (.getfield 67, 3) := by decide +kernel
theorem dX9_clear_61 : decode cX9_clear 61 = .ok (.bipush 20, 2) := by decide +kernel
theorem dX9_clear_63 : decode cX9_clear 63 = .ok (.iload_n 1, 1) := by decide +kernel
theorem dX9_clear_64 : decode cX9_clear 64 = .ok (.imul, 1) := by decide +kernel
theorem dX9_clear_65 : decode cX9_clear 65 = .ok (.bipush 19, 2) := by decide +kernel
theorem dX9_clear_67 : decode cX9_clear 67 = .ok (.iadd, 1) := by decide +kernel
theorem dX9_clear_68 : decode cX9_clear 68 = .ok (.aload_n 0, 1) := by decide +kernel
theorem dX9_clear_69 : decode cX9_clear 69 = .ok (.aload_n 0, 1) := by decide +kernel
theorem dX9_clear_70 : decode cX9_clear 70 = .ok (.getfield 64, 3) := by decide +kernel
theorem dX9_clear_73 : decode cX9_clear 73 = .ok (.iload_n 1, 1) := by decide +kernel
theorem dX9_clear_74 : decode cX9_clear 74 = .ok (.laload, 1) := by decide +kernel
theorem dX9_clear_75 : decode cX9_clear 75 = .ok (.invokevirtual 118, 3) := by decide +kernel
theorem dX9_clear_78 : decode cX9_clear 78 = .ok (.iastore, 1) := by decide +kernel
theorem dX9_clear_79 : decode cX9_clear 79 = .ok (.iinc 1 1, 3) := by decide +kernel
theorem dX9_clear_82 : decode cX9_clear 82 = .ok (.goto (-75), 3) := by decide +kernel
theorem dX9_clear_85 : decode cX9_clear 85 = .ok (.aload_n 0, 1) := by decide +kernel
theorem dX9_clear_86 : decode cX9_clear 86 = .ok (.lconst 1, 1) := by decide +kernel
theorem dX9_clear_87 : decode cX9_clear 87 = .ok (.invokevirtual 118, 3) := by decide +kernel
theorem dX9_clear_90 : decode cX9_clear 90 = .ok (.istore_n 1, 1) := by decide +kernel
theorem dX9_clear_91 : decode cX9_clear 91 = .ok (.iconst 0, 1) := by decide +kernel
theorem dX9_clear_92 : decode cX9_clear 92 = .ok (.istore_n 2, 1) := by decide +kernel
theorem dX9_clear_93 : decode cX9_clear 93 = .ok (.iload_n 2, 1) := by decide +kernel
theorem dX9_clear_94 : decode cX9_clear 94 = .ok (.aload_n 0, 1) := by decide +kernel
theorem dX9_clear_95 : decode cX9_clear 95 = .ok (.getfield 207, 3) := by decide +kernel
theorem dX9_clear_98 : decode cX9_clear 98 = .ok (.if_icmp .ge 166, 3) := by decide +kernel
theorem dX9_clear_101 : decode cX9_clear 101 = .ok (.aload_n 0, 1) := by decide +kernel
theorem dX9_clear_102 : decode cX9_clear 102 = .ok (.getfield 67, 3) := by decide +kernel
theorem dX9_clear_105 : decode cX9_clear 105 = .ok (.bipush 20, 2) := by decide +kernel
theorem dX9_clear_107 : decode cX9_clear 107 = .ok (.iload_n 2, 1) := by decide +kernel
theorem dX9_clear_108 : decode cX9_clear 108 = .ok (.imul, 1) := by decide +kernel
theorem dX9_clear_109 : decode cX9_clear 109 = .ok (.iload_n 2, 1) := by decide +kernel
theorem dX9_clear_110 : decode cX9_clear 110 = .ok (.iadd, 1) := by decide +kernel
theorem dX9_clear_111 : decode cX9_clear 111 = .ok (.iaload, 1) := by decide +kernel
theorem dX9_clear_112 : decode cX9_clear 112 = .ok (.istore_n 3, 1) := by decide +kernel
theorem dX9_clear_113 : decode cX9_clear 113 = .ok (.aload_n 0, 1) := by decide +kernel
theorem dX9_clear_114 : decode cX9_clear 114 = .ok (.iload_n 3, 1) := by decide +kernel
theorem dX9_clear_115 : decode cX9_clear 115 = .ok (.invokevirtual 105, 3) := by decide +kernel
theorem dX9_clear_118 : decode cX9_clear 118 = .ok (.ifCond .ne 5, 3) := by decide +kernel
theorem dX9_clear_121 : decode cX9_clear 121 = .ok (.iconst 0, 1) := by decide +kernel
theorem dX9_clear_122 : decode cX9_clear 122 = .ok (.ireturn, 1) := by decide +kernel
theorem dX9_clear_123 : decode cX9_clear 123 = .ok (.iconst 0, 1) := by decide +kernel
theorem dX9_clear_124 : decode cX9_clear 124 = .ok (.istore 4, 2) := by decide +kernel
theorem dX9_clear_126 : decode cX9_clear 126 = .ok (.iload 4, 2) := by decide +kernel
theorem dX9_clear_128 : decode cX9_clear 128 = .ok (.aload_n 0, 1) := by decide +kernel
theorem dX9_clear_129 : decode cX9_clear 129 = .ok (.getfield 207, 3) := by decide +kernel
theorem dX9_clear_132 : decode cX9_clear 132 = .ok (.if_icmp .ge 124, 3) := by decide +kernel
theorem dX9_clear_135 : decode cX9_clear 135 = .ok (.iload 4, 2) := by decide +kernel
theorem dX9_clear_137 : decode cX9_clear 137 = .ok (.iload_n 2, 1) := by decide +kernel
theorem dX9_clear_138 : decode cX9_clear 138 = .ok (.if_icmp .ne 6, 3) := by decide +kernel
theorem dX9_clear_141 : decode cX9_clear 141 = .ok (.goto 109, 3) := by decide +kernel
theorem dX9_clear_144 : decode cX9_clear 144 = .ok (.aload_n 0, 1) := by decide +kernel
theorem dX9_clear_145 : decode cX9_clear 145 = .ok (.getfield 67, 3) := by decide +kernel
theorem dX9_clear_148 : decode cX9_clear 148 = .ok (.bipush 20, 2) := by decide +kernel
theorem dX9_clear_150 : decode cX9_clear 150 = .ok (.iload 4, 2) := by decide +kernel
theorem dX9_clear_152 : decode cX9_clear 152 = .ok (.imul, 1) := by decide +kernel
theorem dX9_clear_153 : decode cX9_clear 153 = .ok (.iload_n 2, 1) := by decide +kernel
theorem dX9_clear_154 : decode cX9_clear 154 = .ok (.iadd, 1) := by decide +kernel
theorem dX9_clear_155 : decode cX9_clear 155 = .ok (.iaload, 1) := by decide +kernel
theorem dX9_clear_156 : decode cX9_clear 156 = .ok (.istore 5, 2) := by decide +kernel
theorem dX9_clear_158 : decode cX9_clear 158 = .ok (.iload_n 2, 1) := by decide +kernel
theorem dX9_clear_159 : decode cX9_clear 159 = .ok (.iconst 1, 1) := by decide +kernel
theorem dX9_clear_160 : decode cX9_clear 160 = .ok (.iadd, 1) := by decide +kernel
theorem dX9_clear_161 : decode cX9_clear 161 = .ok (.istore 6, 2) := by decide +kernel
theorem dX9_clear_163 : decode cX9_clear 163 = .ok (.iload 6, 2) := by decide +kernel
theorem dX9_clear_165 : decode cX9_clear 165 = .ok (.bipush 20, 2) := by decide +kernel
theorem dX9_clear_167 : decode cX9_clear 167 = .ok (.if_icmp .ge 83, 3) := by decide +kernel
theorem dX9_clear_170 : decode cX9_clear 170 = .ok (.iload 6, 2) := by decide +kernel
theorem dX9_clear_172 : decode cX9_clear 172 = .ok (.aload_n 0, 1) := by decide +kernel
theorem dX9_clear_173 : decode cX9_clear 173 = .ok (.getfield 207, 3) := by decide +kernel
theorem dX9_clear_176 : decode cX9_clear 176 = .ok (.if_icmp .lt 10, 3) := by decide +kernel
theorem dX9_clear_179 : decode cX9_clear 179 = .ok (.iload 6, 2) := by decide +kernel
theorem dX9_clear_181 : decode cX9_clear 181 = .ok (.bipush 19, 2) := by decide +kernel
theorem dX9_clear_183 : decode cX9_clear 183 = .ok (.if_icmp .ne 61, 3) := by decide +kernel
theorem dX9_clear_186 : decode cX9_clear 186 = .ok (.aload_n 0, 1) := by decide +kernel
theorem dX9_clear_187 : decode cX9_clear 187 = .ok (.getfield 67, 3) := by decide +kernel
theorem dX9_clear_190 : decode cX9_clear 190 = .ok (.bipush 20, 2) := by decide +kernel
theorem dX9_clear_192 : decode cX9_clear 192 = .ok (.iload 4, 2) := by decide +kernel
theorem dX9_clear_194 : decode cX9_clear 194 = .ok (.imul, 1) := by decide +kernel
theorem dX9_clear_195 : decode cX9_clear 195 = .ok (.iload 6, 2) := by decide +kernel
theorem dX9_clear_197 : decode cX9_clear 197 = .ok (.iadd, 1) := by decide +kernel
theorem dX9_clear_198 : decode cX9_clear 198 = .ok (.aload_n 0, 1) := by decide +kernel
theorem dX9_clear_199 : decode cX9_clear 199 = .ok (.aload_n 0, 1) := by decide +kernel
theorem dX9_clear_200 : decode cX9_clear 200 = .ok (.aload_n 0, 1) := by decide +kernel
theorem dX9_clear_201 : decode cX9_clear 201 = .ok (.iload_n 3, 1) := by decide +kernel
theorem dX9_clear_202 : decode cX9_clear 202 = .ok (.aload_n 0, 1) := by decide +kernel
theorem dX9_clear_203 : decode cX9_clear 203 = .ok (.getfield 67, 3) := by decide +kernel
theorem dX9_clear_206 : decode cX9_clear 206 = .ok (.bipush 20, 2) := by decide +kernel
theorem dX9_clear_208 : decode cX9_clear 208 = .ok (.iload 4, 2) := by decide +kernel
theorem dX9_clear_210 : decode cX9_clear 210 = .ok (.imul, 1) := by decide +kernel
theorem dX9_clear_211 : decode cX9_clear 211 = .ok (.iload 6, 2) := by decide +kernel
theorem dX9_clear_213 : decode cX9_clear 213 = .ok (.iadd, 1) := by decide +kernel
theorem dX9_clear_214 : decode cX9_clear 214 = .ok (.iaload, 1) := by decide +kernel
theorem dX9_clear_215 : decode cX9_clear 215 = .ok (.invokevirtual 220, 3) := by decide +kernel
theorem dX9_clear_218 : decode cX9_clear 218 = .ok (.aload_n 0, 1) := by decide +kernel
theorem dX9_clear_219 : decode cX9_clear 219 = .ok (.iload 5, 2) := by decide +kernel
theorem dX9_clear_221 : decode cX9_clear 221 = .ok (.aload_n 0, 1) := by decide +kernel
theorem dX9_clear_222 : decode cX9_clear 222 = .ok (.getfield 67, 3) := by decide +kernel
theorem dX9_clear_225 : decode cX9_clear 225 = .ok (.bipush 20, 2) := by decide +kernel
theorem dX9_clear_227 : decode cX9_clear 227 = .ok (.iload_n 2, 1) := by decide +kernel
theorem dX9_clear_228 : decode cX9_clear 228 = .ok (.imul, 1) := by decide +kernel
theorem dX9_clear_229 : decode cX9_clear 229 = .ok (.iload 6, 2) := by decide +kernel
theorem dX9_clear_231 : decode cX9_clear 231 = .ok (.iadd, 1) := by decide +kernel
theorem dX9_clear_232 : decode cX9_clear 232 = .ok (.iaload, 1) := by decide +kernel
theorem dX9_clear_233 : decode cX9_clear 233 = .ok (.invokevirtual 220, 3) := by decide +kernel
theorem dX9_clear_236 : decode cX9_clear 236 = .ok (.invokevirtual 223, 3) := by decide +kernel
theorem dX9_clear_239 : decode cX9_clear 239 = .ok (.iload_n 1, 1) := by decide +kernel
theorem dX9_clear_240 : decode cX9_clear 240 = .ok (.invokevirtual 164, 3) := by decide +kernel
theorem dX9_clear_243 : decode cX9_clear 243 = .ok (.iastore, 1) := by decide +kernel
theorem dX9_clear_244 : decode cX9_clear 244 = .ok (.iinc 6 1, 3) := by decide +kernel
theorem dX9_clear_247 : decode cX9_clear 247 = .ok (.goto (-84), 3) := by decide +kernel
theorem dX9_clear_250 : decode cX9_clear 250 = .ok (.iinc 4 1, 3) := by decide +kernel
theorem dX9_clear_253 : decode cX9_clear 253 = .ok (.goto (-127), 3) := by decide +kernel
theorem dX9_clear_256 : decode cX9_clear 256 = .ok (.iload_n 3, 1) := by decide +kernel
theorem dX9_clear_257 : decode cX9_clear 257 = .ok (.istore_n 1, 1) := by decide +kernel
theorem dX9_clear_258 : decode cX9_clear 258 = .ok (.iinc 2 1, 3) := by decide +kernel
theorem dX9_clear_261 : decode cX9_clear 261 = .ok (.goto (-168), 3) := by decide +kernel
theorem dX9_clear_264 : decode cX9_clear 264 = .ok (.iconst 0, 1) := by decide +kernel
theorem dX9_clear_265 : decode cX9_clear 265 = .ok (.istore_n 2, 1) := by decide +kernel
theorem dX9_clear_266 : decode cX9_clear 266 = .ok (.iload_n 2, 1) := by decide +kernel
theorem dX9_clear_267 : decode cX9_clear 267 = .ok (.aload_n 0, 1) := by decide +kernel
theorem dX9_clear_268 : decode cX9_clear 268 = .ok (.getfield 207, 3) := by decide +kernel
theorem dX9_clear_271 : decode cX9_clear 271 = .ok (.if_icmp .ge 26, 3) := by decide +kernel
theorem dX9_clear_274 : decode cX9_clear 274 = .ok (.aload_n 0, 1) := by decide +kernel
theorem dX9_clear_275 : decode cX9_clear 275 = .ok (.iload_n 2, 1) := by decide +kernel
theorem dX9_clear_276 : decode cX9_clear 276 = .ok (.aload_n 0, 1) := by decide +kernel
theorem dX9_clear_277 : decode cX9_clear 277 = .ok (.getfield 67, 3) := by decide +kernel
theorem dX9_clear_280 : decode cX9_clear 280 = .ok (.bipush 20, 2) := by decide +kernel
theorem dX9_clear_282 : decode cX9_clear 282 = .ok (.iload_n 2, 1) := by decide +kernel
theorem dX9_clear_283 : decode cX9_clear 283 = .ok (.imul, 1) := by decide +kernel
theorem dX9_clear_284 : decode cX9_clear 284 = .ok (.bipush 19, 2) := by decide +kernel
theorem dX9_clear_286 : decode cX9_clear 286 = .ok (.iadd, 1) := by decide +kernel
theorem dX9_clear_287 : decode cX9_clear 287 = .ok (.iaload, 1) := by decide +kernel
theorem dX9_clear_288 : decode cX9_clear 288 = .ok (.invokevirtual 226, 3) := by decide +kernel
theorem dX9_clear_291 : decode cX9_clear 291 = .ok (.iinc 2 1, 3) := by decide +kernel
theorem dX9_clear_294 : decode cX9_clear 294 = .ok (.goto (-28), 3) := by decide +kernel
theorem dX9_clear_297 : decode cX9_clear 297 = .ok (.aload_n 0, 1) := by decide +kernel
theorem dX9_clear_298 : decode cX9_clear 298 = .ok (.bipush 19, 2) := by decide +kernel
theorem dX9_clear_300 : decode cX9_clear 300 = .ok (.iload_n 1, 1) := by decide +kernel
theorem dX9_clear_301 : decode cX9_clear 301 = .ok (.invokevirtual 226, 3) := by decide +kernel
theorem dX9_clear_304 : decode cX9_clear 304 = .ok (.aload_n 0, 1) := by decide +kernel
theorem dX9_clear_305 : decode cX9_clear 305 = .ok (.iconst 0, 1) := by decide +kernel
theorem dX9_clear_306 : decode cX9_clear 306 = .ok (.putfield 86, 3) := by decide +kernel
theorem dX9_clear_309 : decode cX9_clear 309 = .ok (.iconst 1, 1) := by decide +kernel
theorem dX9_clear_310 : decode cX9_clear 310 = .ok (.ireturn, 1) := by decide +kernel
theorem dX9_solve_0 : decode cX9_solve 0 = .ok (.aload_n 0, 1) := by decide +kernel
theorem dX9_solve_1 : decode cX9_solve 1 = .ok (.iload_n 1, 1) := by decide +kernel
theorem dX9_solve_2 : decode cX9_solve 2 = .ok (.invokevirtual 229, 3) := by decide +kernel
theorem dX9_solve_5 : decode cX9_solve 5 = .ok (.aload_n 0, 1) := by decide +kernel
theorem dX9_solve_6 : decode cX9_solve 6 = .ok (.invokevirtual 232, 3) := by decide +kernel
theorem dX9_solve_9 : decode cX9_solve 9 = .ok (.ireturn, 1) := by decide +kernel
theorem dX9_given_0 : decode cX9_given 0 = .ok (.aload_n 0, 1) := by decide +kernel
theorem dX9_given_1 : decode cX9_given 1 = .ok (.iload_n 1, 1) := by decide +kernel
theorem dX9_given_2 : decode cX9_given 2 = .ok (.iload_n 2, 1) := by decide +kernel
theorem dX9_given_3 : decode cX9_given 3 = .ok (.invokevirtual 213, 3) := by decide +kernel
theorem dX9_given_6 : decode cX9_given 6 = .ok (.aload_n 0, 1) := by decide +kernel
theorem dX9_given_7 : decode cX9_given 7 = .ok (.lconst 0, 1) := by decide +kernel
theorem dX9_given_8 : decode cX9_given 8 = .ok (.invokevirtual 118, 3) := by decide +kernel
theorem dX9_given_11 : decode cX9_given 11 = .ok (.istore 4, 2) := by decide +kernel
theorem dX9_given_13 : decode cX9_given 13 = .ok (.iconst 0, 1) := by decide +kernel
theorem dX9_given_14 : decode cX9_given 14 = .ok (.istore 5, 2) := by decide +kernel
theorem dX9_given_16 : decode cX9_given 16 = .ok (.iload 5, 2) := by decide +kernel
theorem dX9_given_18 : decode cX9_given 18 = .ok (.aload_n 0, 1) := by decide +kernel
theorem dX9_given_19 : decode cX9_given 19 = .ok (.getfield 207, 3) := by decide +kernel
theorem dX9_given_22 : decode cX9_given 22 = .ok (.if_icmp .ge 65, 3) := by decide +kernel
theorem dX9_given_25 : decode cX9_given 25 = .ok (.aload_n 0, 1) := by decide +kernel
theorem dX9_given_26 : decode cX9_given 26 = .ok (.getfield 54, 3) := by decide +kernel
theorem dX9_given_29 : decode cX9_given 29 = .ok (.iload 5, 2) := by decide +kernel
theorem dX9_given_31 : decode cX9_given 31 = .ok (.iaload, 1) := by decide +kernel
theorem dX9_given_32 : decode cX9_given 32 = .ok (.ifCond .eq 49, 3) := by decide +kernel
theorem dX9_given_35 : decode cX9_given 35 = .ok (.iload_n 3, 1) := by decide +kernel
theorem dX9_given_36 : decode cX9_given 36 = .ok (.iconst 3, 1) := by decide +kernel
theorem dX9_given_37 : decode cX9_given 37 = .ok (.if_icmp .eq 14, 3) := by decide +kernel
theorem dX9_given_40 : decode cX9_given 40 = .ok (.aload_n 0, 1) := by decide +kernel
theorem dX9_given_41 : decode cX9_given 41 = .ok (.getfield 57, 3) := by decide +kernel
theorem dX9_given_44 : decode cX9_given 44 = .ok (.iload 5, 2) := by decide +kernel
theorem dX9_given_46 : decode cX9_given 46 = .ok (.iaload, 1) := by decide +kernel
theorem dX9_given_47 : decode cX9_given 47 = .ok (.iload_n 3, 1) := by decide +kernel
theorem dX9_given_48 : decode cX9_given 48 = .ok (.if_icmp .ne 33, 3) := by decide +kernel
theorem dX9_given_51 : decode cX9_given 51 = .ok (.aload_n 0, 1) := by decide +kernel
theorem dX9_given_52 : decode cX9_given 52 = .ok (.iload 4, 2) := by decide +kernel
theorem dX9_given_54 : decode cX9_given 54 = .ok (.aload_n 0, 1) := by decide +kernel
theorem dX9_given_55 : decode cX9_given 55 = .ok (.aload_n 0, 1) := by decide +kernel
theorem dX9_given_56 : decode cX9_given 56 = .ok (.aload_n 0, 1) := by decide +kernel
theorem dX9_given_57 : decode cX9_given 57 = .ok (.getfield 54, 3) := by decide +kernel
theorem dX9_given_60 : decode cX9_given 60 = .ok (.iload 5, 2) := by decide +kernel
theorem dX9_given_62 : decode cX9_given 62 = .ok (.iaload, 1) := by decide +kernel
theorem dX9_given_63 : decode cX9_given 63 = .ok (.i2l, 1) := by decide +kernel
theorem dX9_given_64 : decode cX9_given 64 = .ok (.invokevirtual 118, 3) := by decide +kernel
theorem dX9_given_67 : decode cX9_given 67 = .ok (.aload_n 0, 1) := by decide +kernel
theorem dX9_given_68 : decode cX9_given 68 = .ok (.iload 5, 2) := by decide +kernel
theorem dX9_given_70 : decode cX9_given 70 = .ok (.invokevirtual 236, 3) := by decide +kernel
theorem dX9_given_73 : decode cX9_given 73 = .ok (.invokevirtual 220, 3) := by decide +kernel
theorem dX9_given_76 : decode cX9_given 76 = .ok (.invokevirtual 125, 3) := by decide +kernel
theorem dX9_given_79 : decode cX9_given 79 = .ok (.istore 4, 2) := by decide +kernel
theorem dX9_given_81 : decode cX9_given 81 = .ok (.iinc 5 1, 3) := by decide +kernel
theorem dX9_given_84 : decode cX9_given 84 = .ok (.goto (-68), 3) := by decide +kernel
theorem dX9_given_87 : decode cX9_given 87 = .ok (.iload 4, 2) := by decide +kernel
theorem dX9_given_89 : decode cX9_given 89 = .ok (.ireturn, 1) := by decide +kernel
theorem dX9_cost_0 : decode cX9_cost 0 = .ok (.aload_n 0, 1) := by decide +kernel
theorem dX9_cost_1 : decode cX9_cost 1 = .ok (.aload_n 0, 1) := by decide +kernel
theorem dX9_cost_2 : decode cX9_cost 2 = .ok (.aload_n 0, 1) := by decide +kernel
theorem dX9_cost_3 : decode cX9_cost 3 = .ok (.getfield 216, 3) := by decide +kernel
theorem dX9_cost_6 : decode cX9_cost 6 = .ok (.invokevirtual 118, 3) := by decide +kernel
theorem dX9_cost_9 : decode cX9_cost 9 = .ok (.aload_n 0, 1) := by decide +kernel
theorem dX9_cost_10 : decode cX9_cost 10 = .ok (.bipush 19, 2) := by decide +kernel
theorem dX9_cost_12 : decode cX9_cost 12 = .ok (.invokevirtual 236, 3) := by decide +kernel
theorem dX9_cost_15 : decode cX9_cost 15 = .ok (.invokevirtual 220, 3) := by decide +kernel
theorem dX9_cost_18 : decode cX9_cost 18 = .ok (.istore_n 1, 1) := by decide +kernel
theorem dX9_cost_19 : decode cX9_cost 19 = .ok (.iconst 0, 1) := by decide +kernel
theorem dX9_cost_20 : decode cX9_cost 20 = .ok (.istore_n 2, 1) := by decide +kernel
theorem dX9_cost_21 : decode cX9_cost 21 = .ok (.iload_n 2, 1) := by decide +kernel
theorem dX9_cost_22 : decode cX9_cost 22 = .ok (.aload_n 0, 1) := by decide +kernel
theorem dX9_cost_23 : decode cX9_cost 23 = .ok (.getfield 207, 3) := by decide +kernel
theorem dX9_cost_26 : decode cX9_cost 26 = .ok (.if_icmp .ge 34, 3) := by decide +kernel
theorem dX9_cost_29 : decode cX9_cost 29 = .ok (.aload_n 0, 1) := by decide +kernel
theorem dX9_cost_30 : decode cX9_cost 30 = .ok (.iload_n 1, 1) := by decide +kernel
theorem dX9_cost_31 : decode cX9_cost 31 = .ok (.aload_n 0, 1) := by decide +kernel
theorem dX9_cost_32 : decode cX9_cost 32 = .ok (.aload_n 0, 1) := by decide +kernel
theorem dX9_cost_33 : decode cX9_cost 33 = .ok (.iload_n 2, 1) := by decide +kernel
theorem dX9_cost_34 : decode cX9_cost 34 = .ok (.invokevirtual 236, 3) := by decide +kernel
theorem dX9_cost_37 : decode cX9_cost 37 = .ok (.aload_n 0, 1) := by decide +kernel
theorem dX9_cost_38 : decode cX9_cost 38 = .ok (.aload_n 0, 1) := by decide +kernel
theorem dX9_cost_39 : decode cX9_cost 39 = .ok (.getfield 64, 3) := by decide +kernel
theorem dX9_cost_42 : decode cX9_cost 42 = .ok (.iload_n 2, 1) := by decide +kernel
theorem dX9_cost_43 : decode cX9_cost 43 = .ok (.laload, 1) := by decide +kernel
theorem dX9_cost_44 : decode cX9_cost 44 = .ok (.invokevirtual 118, 3) := by decide +kernel
theorem dX9_cost_47 : decode cX9_cost 47 = .ok (.invokevirtual 220, 3) := by decide +kernel
theorem dX9_cost_50 : decode cX9_cost 50 = .ok (.invokevirtual 223, 3) := by decide +kernel
theorem dX9_cost_53 : decode cX9_cost 53 = .ok (.istore_n 1, 1) := by decide +kernel
theorem dX9_cost_54 : decode cX9_cost 54 = .ok (.iinc 2 1, 3) := by decide +kernel
theorem dX9_cost_57 : decode cX9_cost 57 = .ok (.goto (-36), 3) := by decide +kernel
theorem dX9_cost_60 : decode cX9_cost 60 = .ok (.iload_n 1, 1) := by decide +kernel
theorem dX9_cost_61 : decode cX9_cost 61 = .ok (.ireturn, 1) := by decide +kernel
theorem dX9_part_0 : decode cX9_part 0 = .ok (.iload_n 1, 1) := by decide +kernel
theorem dX9_part_1 : decode cX9_part 1 = .ok (.invokestatic 174, 3) := by decide +kernel
theorem dX9_part_4 : decode cX9_part 4 = .ok (.ifCond .ne 9, 3) := by decide +kernel
theorem dX9_part_7 : decode cX9_part 7 = .ok (.aload_n 0, 1) := by decide +kernel
theorem dX9_part_8 : decode cX9_part 8 = .ok (.iconst 1, 1) := by decide +kernel
theorem dX9_part_9 : decode cX9_part 9 = .ok (.invokevirtual 191, 3) := by decide +kernel
theorem dX9_part_12 : decode cX9_part 12 = .ok (.ireturn, 1) := by decide +kernel
theorem dX9_part_13 : decode cX9_part 13 = .ok (.iload_n 2, 1) := by decide +kernel
theorem dX9_part_14 : decode cX9_part 14 = .ok (.ifCond .lt 8, 3) := by decide +kernel
theorem dX9_part_17 : decode cX9_part 17 = .ok (.iload_n 2, 1) := by decide +kernel
theorem dX9_part_18 : decode cX9_part 18 = .ok (.iconst 2, 1) := by decide +kernel
theorem dX9_part_19 : decode cX9_part 19 = .ok (.if_icmp .le 9, 3) := by decide +kernel
theorem dX9_part_22 : decode cX9_part 22 = .ok (.aload_n 0, 1) := by decide +kernel
theorem dX9_part_23 : decode cX9_part 23 = .ok (.iconst 2, 1) := by decide +kernel
theorem dX9_part_24 : decode cX9_part 24 = .ok (.invokevirtual 191, 3) := by decide +kernel
theorem dX9_part_27 : decode cX9_part 27 = .ok (.ireturn, 1) := by decide +kernel
theorem dX9_part_28 : decode cX9_part 28 = .ok (.aload_n 0, 1) := by decide +kernel
theorem dX9_part_29 : decode cX9_part 29 = .ok (.iload_n 1, 1) := by decide +kernel
theorem dX9_part_30 : decode cX9_part 30 = .ok (.invokevirtual 239, 3) := by decide +kernel
theorem dX9_part_33 : decode cX9_part 33 = .ok (.ifCond .ne 10, 3) := by decide +kernel
theorem dX9_part_36 : decode cX9_part 36 = .ok (.aload_n 0, 1) := by decide +kernel
theorem dX9_part_37 : decode cX9_part 37 = .ok (.bipush 6, 2) := by decide +kernel
theorem dX9_part_39 : decode cX9_part 39 = .ok (.invokevirtual 191, 3) := by decide +kernel
theorem dX9_part_42 : decode cX9_part 42 = .ok (.ireturn, 1) := by decide +kernel
theorem dX9_part_43 : decode cX9_part 43 = .ok (.iload_n 2, 1) := by decide +kernel
theorem dX9_part_44 : decode cX9_part 44 = .ok (.iconst 2, 1) := by decide +kernel
theorem dX9_part_45 : decode cX9_part 45 = .ok (.if_icmp .ne 18, 3) := by decide +kernel
theorem dX9_part_48 : decode cX9_part 48 = .ok (.aload_n 0, 1) := by decide +kernel
theorem dX9_part_49 : decode cX9_part 49 = .ok (.aload_n 0, 1) := by decide +kernel
theorem dX9_part_50 : decode cX9_part 50 = .ok (.invokevirtual 242, 3) := by decide +kernel
theorem dX9_part_53 : decode cX9_part 53 = .ok (.aload_n 0, 1) := by decide +kernel
theorem dX9_part_54 : decode cX9_part 54 = .ok (.bipush 19, 2) := by decide +kernel
theorem dX9_part_56 : decode cX9_part 56 = .ok (.invokevirtual 236, 3) := by decide +kernel
theorem dX9_part_59 : decode cX9_part 59 = .ok (.invokevirtual 246, 3) := by decide +kernel
theorem dX9_part_62 : decode cX9_part 62 = .ok (.ireturn, 1) := by decide +kernel
theorem dX9_part_63 : decode cX9_part 63 = .ok (.iload_n 2, 1) := by decide +kernel
theorem dX9_part_64 : decode cX9_part 64 = .ok (.iconst 1, 1) := by decide +kernel
theorem dX9_part_65 : decode cX9_part 65 = .ok (.if_icmp .ne 29, 3) := by decide +kernel
theorem dX9_part_68 : decode cX9_part 68 = .ok (.aload_n 0, 1) := by decide +kernel
theorem dX9_part_69 : decode cX9_part 69 = .ok (.getfield 48, 3) := by decide +kernel
theorem dX9_part_72 : decode cX9_part 72 = .ok (.iload_n 1, 1) := by decide +kernel
theorem dX9_part_73 : decode cX9_part 73 = .ok (.baload, 1) := by decide +kernel
theorem dX9_part_74 : decode cX9_part 74 = .ok (.ifCond .ne 20, 3) := by decide +kernel
theorem dX9_part_77 : decode cX9_part 77 = .ok (.aload_n 0, 1) := by decide +kernel
theorem dX9_part_78 : decode cX9_part 78 = .ok (.aload_n 0, 1) := by decide +kernel
theorem dX9_part_79 : decode cX9_part 79 = .ok (.lconst 0, 1) := by decide +kernel
theorem dX9_part_80 : decode cX9_part 80 = .ok (.invokevirtual 118, 3) := by decide +kernel
theorem dX9_part_83 : decode cX9_part 83 = .ok (.aload_n 0, 1) := by decide +kernel
theorem dX9_part_84 : decode cX9_part 84 = .ok (.lconst 1, 1) := by decide +kernel
theorem dX9_part_85 : decode cX9_part 85 = .ok (.invokevirtual 118, 3) := by decide +kernel
theorem dX9_part_88 : decode cX9_part 88 = .ok (.invokevirtual 246, 3) := by decide +kernel
theorem dX9_part_91 : decode cX9_part 91 = .ok (.goto 18, 3) := by decide +kernel
theorem dX9_part_94 : decode cX9_part 94 = .ok (.aload_n 0, 1) := by decide +kernel
theorem dX9_part_95 : decode cX9_part 95 = .ok (.aload_n 0, 1) := by decide +kernel
theorem dX9_part_96 : decode cX9_part 96 = .ok (.iload_n 2, 1) := by decide +kernel
theorem dX9_part_97 : decode cX9_part 97 = .ok (.invokevirtual 236, 3) := by decide +kernel
theorem dX9_part_100 : decode cX9_part 100 = .ok (.aload_n 0, 1) := by decide +kernel
theorem dX9_part_101 : decode cX9_part 101 = .ok (.bipush 19, 2) := by decide +kernel
theorem dX9_part_103 : decode cX9_part 103 = .ok (.invokevirtual 236, 3) := by decide +kernel
theorem dX9_part_106 : decode cX9_part 106 = .ok (.invokevirtual 246, 3) := by decide +kernel
theorem dX9_part_109 : decode cX9_part 109 = .ok (.ireturn, 1) := by decide +kernel
theorem dX9_stepBy_0 : decode cX9_stepBy 0 = .ok (.iload_n 1, 1) := by decide +kernel
theorem dX9_stepBy_1 : decode cX9_stepBy 1 = .ok (.invokestatic 174, 3) := by decide +kernel
theorem dX9_stepBy_4 : decode cX9_stepBy 4 = .ok (.ifCond .ne 9, 3) := by decide +kernel
theorem dX9_stepBy_7 : decode cX9_stepBy 7 = .ok (.aload_n 0, 1) := by decide +kernel
theorem dX9_stepBy_8 : decode cX9_stepBy 8 = .ok (.iconst 1, 1) := by decide +kernel
theorem dX9_stepBy_9 : decode cX9_stepBy 9 = .ok (.invokevirtual 191, 3) := by decide +kernel
theorem dX9_stepBy_12 : decode cX9_stepBy 12 = .ok (.ireturn, 1) := by decide +kernel
theorem dX9_stepBy_13 : decode cX9_stepBy 13 = .ok (.iload_n 2, 1) := by decide +kernel
theorem dX9_stepBy_14 : decode cX9_stepBy 14 = .ok (.ifCond .lt 13, 3) := by decide +kernel
theorem dX9_stepBy_17 : decode cX9_stepBy 17 = .ok (.iload_n 2, 1) := by decide +kernel
theorem dX9_stepBy_18 : decode cX9_stepBy 18 = .ok (.aload_n 0, 1) := by decide +kernel
theorem dX9_stepBy_19 : decode cX9_stepBy 19 = .ok (.getfield 32, 3) := by decide +kernel
theorem dX9_stepBy_22 : decode cX9_stepBy 22 = .ok (.iload_n 1, 1) := by decide +kernel
theorem dX9_stepBy_23 : decode cX9_stepBy 23 = .ok (.iaload, 1) := by decide +kernel
theorem dX9_stepBy_24 : decode cX9_stepBy 24 = .ok (.if_icmp .lt 9, 3) := by decide +kernel
theorem dX9_stepBy_27 : decode cX9_stepBy 27 = .ok (.aload_n 0, 1) := by decide +kernel
theorem dX9_stepBy_28 : decode cX9_stepBy 28 = .ok (.iconst 5, 1) := by decide +kernel
theorem dX9_stepBy_29 : decode cX9_stepBy 29 = .ok (.invokevirtual 191, 3) := by decide +kernel
theorem dX9_stepBy_32 : decode cX9_stepBy 32 = .ok (.ireturn, 1) := by decide +kernel
theorem dX9_stepBy_33 : decode cX9_stepBy 33 = .ok (.aload_n 0, 1) := by decide +kernel
theorem dX9_stepBy_34 : decode cX9_stepBy 34 = .ok (.iload_n 1, 1) := by decide +kernel
theorem dX9_stepBy_35 : decode cX9_stepBy 35 = .ok (.invokevirtual 239, 3) := by decide +kernel
theorem dX9_stepBy_38 : decode cX9_stepBy 38 = .ok (.ifCond .ne 10, 3) := by decide +kernel
theorem dX9_stepBy_41 : decode cX9_stepBy 41 = .ok (.aload_n 0, 1) := by decide +kernel
theorem dX9_stepBy_42 : decode cX9_stepBy 42 = .ok (.bipush 6, 2) := by decide +kernel
theorem dX9_stepBy_44 : decode cX9_stepBy 44 = .ok (.invokevirtual 191, 3) := by decide +kernel
theorem dX9_stepBy_47 : decode cX9_stepBy 47 = .ok (.ireturn, 1) := by decide +kernel
theorem dX9_stepBy_48 : decode cX9_stepBy 48 = .ok (.aload_n 0, 1) := by decide +kernel
theorem dX9_stepBy_49 : decode cX9_stepBy 49 = .ok (.aload_n 0, 1) := by decide +kernel
theorem dX9_stepBy_50 : decode cX9_stepBy 50 = .ok (.aload_n 0, 1) := by decide +kernel
theorem dX9_stepBy_51 : decode cX9_stepBy 51 = .ok (.getfield 48, 3) := by decide +kernel
theorem dX9_stepBy_54 : decode cX9_stepBy 54 = .ok (.iload_n 1, 1) := by decide +kernel
theorem dX9_stepBy_55 : decode cX9_stepBy 55 = .ok (.baload, 1) := by decide +kernel
theorem dX9_stepBy_56 : decode cX9_stepBy 56 = .ok (.ifCond .eq 7, 3) := by decide +kernel
theorem dX9_stepBy_59 : decode cX9_stepBy 59 = .ok (.iconst 2, 1) := by decide +kernel
theorem dX9_stepBy_60 : decode cX9_stepBy 60 = .ok (.goto 4, 3) := by decide +kernel
theorem dX9_stepBy_63 : decode cX9_stepBy 63 = .ok (.iconst 1, 1) := by decide +kernel
theorem dX9_stepBy_64 : decode cX9_stepBy 64 = .ok (.iload_n 2, 1) := by decide +kernel
theorem dX9_stepBy_65 : decode cX9_stepBy 65 = .ok (.iadd, 1) := by decide +kernel
theorem dX9_stepBy_66 : decode cX9_stepBy 66 = .ok (.invokevirtual 236, 3) := by decide +kernel
theorem dX9_stepBy_69 : decode cX9_stepBy 69 = .ok (.aload_n 0, 1) := by decide +kernel
theorem dX9_stepBy_70 : decode cX9_stepBy 70 = .ok (.bipush 19, 2) := by decide +kernel
theorem dX9_stepBy_72 : decode cX9_stepBy 72 = .ok (.invokevirtual 236, 3) := by decide +kernel
theorem dX9_stepBy_75 : decode cX9_stepBy 75 = .ok (.invokevirtual 246, 3) := by decide +kernel
theorem dX9_stepBy_78 : decode cX9_stepBy 78 = .ok (.ireturn, 1) := by decide +kernel
theorem dX9_feastBy_0 : decode cX9_feastBy 0 = .ok (.iload_n 1, 1) := by decide +kernel
theorem dX9_feastBy_1 : decode cX9_feastBy 1 = .ok (.invokestatic 174, 3) := by decide +kernel
theorem dX9_feastBy_4 : decode cX9_feastBy 4 = .ok (.ifCond .ne 9, 3) := by decide +kernel
theorem dX9_feastBy_7 : decode cX9_feastBy 7 = .ok (.aload_n 0, 1) := by decide +kernel
theorem dX9_feastBy_8 : decode cX9_feastBy 8 = .ok (.iconst 1, 1) := by decide +kernel
theorem dX9_feastBy_9 : decode cX9_feastBy 9 = .ok (.invokevirtual 191, 3) := by decide +kernel
theorem dX9_feastBy_12 : decode cX9_feastBy 12 = .ok (.ireturn, 1) := by decide +kernel
theorem dX9_feastBy_13 : decode cX9_feastBy 13 = .ok (.iload_n 2, 1) := by decide +kernel
theorem dX9_feastBy_14 : decode cX9_feastBy 14 = .ok (.ifCond .lt 13, 3) := by decide +kernel
theorem dX9_feastBy_17 : decode cX9_feastBy 17 = .ok (.iload_n 2, 1) := by decide +kernel
theorem dX9_feastBy_18 : decode cX9_feastBy 18 = .ok (.aload_n 0, 1) := by decide +kernel
theorem dX9_feastBy_19 : decode cX9_feastBy 19 = .ok (.getfield 38, 3) := by decide +kernel
theorem dX9_feastBy_22 : decode cX9_feastBy 22 = .ok (.iload_n 1, 1) := by decide +kernel
theorem dX9_feastBy_23 : decode cX9_feastBy 23 = .ok (.iaload, 1) := by decide +kernel
theorem dX9_feastBy_24 : decode cX9_feastBy 24 = .ok (.if_icmp .lt 9, 3) := by decide +kernel
