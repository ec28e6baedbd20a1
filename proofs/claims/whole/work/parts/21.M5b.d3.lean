theorem d_M_join_334 : decode b_M_join 334 = .ok (.if_icmp .ne 11, 3) := by decide +kernel
theorem d_M_join_337 : decode b_M_join 337 = .ok (.lload 7, 2) := by decide +kernel
theorem d_M_join_339 : decode b_M_join 339 = .ok (.lload 9, 2) := by decide +kernel
theorem d_M_join_341 : decode b_M_join 341 = .ok (.ldiv, 1) := by decide +kernel
theorem d_M_join_342 : decode b_M_join 342 = .ok (.goto 90, 3) := by decide +kernel
theorem d_M_join_345 : decode b_M_join 345 = .ok (.iload_n 2, 1) := by decide +kernel
theorem d_M_join_346 : decode b_M_join 346 = .ok (.bipush 37, 2) := by decide +kernel
theorem d_M_join_348 : decode b_M_join 348 = .ok (.if_icmp .ne 11, 3) := by decide +kernel
theorem d_M_join_351 : decode b_M_join 351 = .ok (.lload 7, 2) := by decide +kernel
theorem d_M_join_353 : decode b_M_join 353 = .ok (.lload 9, 2) := by decide +kernel
theorem d_M_join_355 : decode b_M_join 355 = .ok (.lrem, 1) := by decide +kernel
theorem d_M_join_356 : decode b_M_join 356 = .ok (.goto 76, 3) := by decide +kernel
theorem d_M_join_359 : decode b_M_join 359 = .ok (.iload_n 2, 1) := by decide +kernel
theorem d_M_join_360 : decode b_M_join 360 = .ok (.sipush 256, 3) := by decide +kernel
theorem d_M_join_363 : decode b_M_join 363 = .ok (.if_icmp .ne 16, 3) := by decide +kernel
theorem d_M_join_366 : decode b_M_join 366 = .ok (.lload 7, 2) := by decide +kernel
theorem d_M_join_368 : decode b_M_join 368 = .ok (.lload 9, 2) := by decide +kernel
theorem d_M_join_370 : decode b_M_join 370 = .ok (.ldc2_w 169, 3) := by decide +kernel
theorem d_M_join_373 : decode b_M_join 373 = .ok (.land, 1) := by decide +kernel
theorem d_M_join_374 : decode b_M_join 374 = .ok (.l2i, 1) := by decide +kernel
theorem d_M_join_375 : decode b_M_join 375 = .ok (.lshl, 1) := by decide +kernel
theorem d_M_join_376 : decode b_M_join 376 = .ok (.goto 56, 3) := by decide +kernel
theorem d_M_join_379 : decode b_M_join 379 = .ok (.iload_n 2, 1) := by decide +kernel
theorem d_M_join_380 : decode b_M_join 380 = .ok (.sipush 257, 3) := by decide +kernel
theorem d_M_join_383 : decode b_M_join 383 = .ok (.if_icmp .ne 16, 3) := by decide +kernel
theorem d_M_join_386 : decode b_M_join 386 = .ok (.lload 7, 2) := by decide +kernel
theorem d_M_join_388 : decode b_M_join 388 = .ok (.lload 9, 2) := by decide +kernel
theorem d_M_join_390 : decode b_M_join 390 = .ok (.ldc2_w 169, 3) := by decide +kernel
theorem d_M_join_393 : decode b_M_join 393 = .ok (.land, 1) := by decide +kernel
theorem d_M_join_394 : decode b_M_join 394 = .ok (.l2i, 1) := by decide +kernel
theorem d_M_join_395 : decode b_M_join 395 = .ok (.lushr, 1) := by decide +kernel
theorem d_M_join_396 : decode b_M_join 396 = .ok (.goto 36, 3) := by decide +kernel
theorem d_M_join_399 : decode b_M_join 399 = .ok (.iload_n 2, 1) := by decide +kernel
theorem d_M_join_400 : decode b_M_join 400 = .ok (.bipush 38, 2) := by decide +kernel
theorem d_M_join_402 : decode b_M_join 402 = .ok (.if_icmp .ne 11, 3) := by decide +kernel
theorem d_M_join_405 : decode b_M_join 405 = .ok (.lload 7, 2) := by decide +kernel
theorem d_M_join_407 : decode b_M_join 407 = .ok (.lload 9, 2) := by decide +kernel
theorem d_M_join_409 : decode b_M_join 409 = .ok (.land, 1) := by decide +kernel
theorem d_M_join_410 : decode b_M_join 410 = .ok (.goto 22, 3) := by decide +kernel
theorem d_M_join_413 : decode b_M_join 413 = .ok (.iload_n 2, 1) := by decide +kernel
theorem d_M_join_414 : decode b_M_join 414 = .ok (.bipush 94, 2) := by decide +kernel
theorem d_M_join_416 : decode b_M_join 416 = .ok (.if_icmp .ne 11, 3) := by decide +kernel
theorem d_M_join_419 : decode b_M_join 419 = .ok (.lload 7, 2) := by decide +kernel
theorem d_M_join_421 : decode b_M_join 421 = .ok (.lload 9, 2) := by decide +kernel
theorem d_M_join_423 : decode b_M_join 423 = .ok (.lxor, 1) := by decide +kernel
theorem d_M_join_424 : decode b_M_join 424 = .ok (.goto 8, 3) := by decide +kernel
theorem d_M_join_427 : decode b_M_join 427 = .ok (.lload 7, 2) := by decide +kernel
theorem d_M_join_429 : decode b_M_join 429 = .ok (.lload 9, 2) := by decide +kernel
theorem d_M_join_431 : decode b_M_join 431 = .ok (.lor, 1) := by decide +kernel
theorem d_M_join_432 : decode b_M_join 432 = .ok (.lastore, 1) := by decide +kernel
theorem d_M_join_433 : decode b_M_join 433 = .ok (.aload_n 0, 1) := by decide +kernel
theorem d_M_join_434 : decode b_M_join 434 = .ok (.iload_n 1, 1) := by decide +kernel
theorem d_M_join_435 : decode b_M_join 435 = .ok (.iconst 2, 1) := by decide +kernel
theorem d_M_join_436 : decode b_M_join 436 = .ok (.invokevirtual 165, 3) := by decide +kernel
theorem d_M_join_439 : decode b_M_join 439 = .ok (.return_, 1) := by decide +kernel
