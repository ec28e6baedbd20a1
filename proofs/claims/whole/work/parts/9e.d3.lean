theorem d_W_law_324 : decode code 324 = .ok (.ireturn, 1) := by decide +kernel
theorem d_W_law_325 : decode code 325 = .ok (.aload_n 1, 1) := by decide +kernel
theorem d_W_law_326 : decode code 326 = .ok (.invokevirtual 54, 3) := by decide +kernel
theorem d_W_law_329 : decode code 329 = .ok (.aload_n 2, 1) := by decide +kernel
theorem d_W_law_330 : decode code 330 = .ok (.invokevirtual 58, 3) := by decide +kernel
theorem d_W_law_333 : decode code 333 = .ok (.lcmp, 1) := by decide +kernel
theorem d_W_law_334 : decode code 334 = .ok (.ifCond .eq 67, 3) := by decide +kernel
theorem d_W_law_337 : decode code 337 = .ok (.iconst 0, 1) := by decide +kernel
theorem d_W_law_338 : decode code 338 = .ok (.ireturn, 1) := by decide +kernel
theorem d_W_law_339 : decode code 339 = .ok (.aload_n 1, 1) := by decide +kernel
theorem d_W_law_340 : decode code 340 = .ok (.aload_n 0, 1) := by decide +kernel
theorem d_W_law_341 : decode code 341 = .ok (.iload 4, 2) := by decide +kernel
theorem d_W_law_343 : decode code 343 = .ok (.iconst 1, 1) := by decide +kernel
theorem d_W_law_344 : decode code 344 = .ok (.iadd, 1) := by decide +kernel
theorem d_W_law_345 : decode code 345 = .ok (.iaload, 1) := by decide +kernel
theorem d_W_law_346 : decode code 346 = .ok (.invokevirtual 59, 3) := by decide +kernel
theorem d_W_law_349 : decode code 349 = .ok (.aload_n 2, 1) := by decide +kernel
theorem d_W_law_350 : decode code 350 = .ok (.aload_n 0, 1) := by decide +kernel
theorem d_W_law_351 : decode code 351 = .ok (.iload 4, 2) := by decide +kernel
theorem d_W_law_353 : decode code 353 = .ok (.iconst 1, 1) := by decide +kernel
theorem d_W_law_354 : decode code 354 = .ok (.iadd, 1) := by decide +kernel
theorem d_W_law_355 : decode code 355 = .ok (.iaload, 1) := by decide +kernel
theorem d_W_law_356 : decode code 356 = .ok (.invokevirtual 63, 3) := by decide +kernel
theorem d_W_law_359 : decode code 359 = .ok (.if_icmp .eq 42, 3) := by decide +kernel
theorem d_W_law_362 : decode code 362 = .ok (.iconst 0, 1) := by decide +kernel
theorem d_W_law_363 : decode code 363 = .ok (.ireturn, 1) := by decide +kernel
theorem d_W_law_364 : decode code 364 = .ok (.aload_n 1, 1) := by decide +kernel
theorem d_W_law_365 : decode code 365 = .ok (.aload_n 0, 1) := by decide +kernel
theorem d_W_law_366 : decode code 366 = .ok (.iload 4, 2) := by decide +kernel
theorem d_W_law_368 : decode code 368 = .ok (.iconst 1, 1) := by decide +kernel
theorem d_W_law_369 : decode code 369 = .ok (.iadd, 1) := by decide +kernel
theorem d_W_law_370 : decode code 370 = .ok (.iaload, 1) := by decide +kernel
theorem d_W_law_371 : decode code 371 = .ok (.aload_n 0, 1) := by decide +kernel
theorem d_W_law_372 : decode code 372 = .ok (.iload 4, 2) := by decide +kernel
theorem d_W_law_374 : decode code 374 = .ok (.iconst 2, 1) := by decide +kernel
theorem d_W_law_375 : decode code 375 = .ok (.iadd, 1) := by decide +kernel
theorem d_W_law_376 : decode code 376 = .ok (.iaload, 1) := by decide +kernel
theorem d_W_law_377 : decode code 377 = .ok (.invokevirtual 64, 3) := by decide +kernel
theorem d_W_law_380 : decode code 380 = .ok (.aload_n 2, 1) := by decide +kernel
theorem d_W_law_381 : decode code 381 = .ok (.aload_n 0, 1) := by decide +kernel
theorem d_W_law_382 : decode code 382 = .ok (.iload 4, 2) := by decide +kernel
theorem d_W_law_384 : decode code 384 = .ok (.iconst 1, 1) := by decide +kernel
theorem d_W_law_385 : decode code 385 = .ok (.iadd, 1) := by decide +kernel
theorem d_W_law_386 : decode code 386 = .ok (.iaload, 1) := by decide +kernel
theorem d_W_law_387 : decode code 387 = .ok (.aload_n 0, 1) := by decide +kernel
theorem d_W_law_388 : decode code 388 = .ok (.iload 4, 2) := by decide +kernel
theorem d_W_law_390 : decode code 390 = .ok (.iconst 2, 1) := by decide +kernel
theorem d_W_law_391 : decode code 391 = .ok (.iadd, 1) := by decide +kernel
theorem d_W_law_392 : decode code 392 = .ok (.iaload, 1) := by decide +kernel
theorem d_W_law_393 : decode code 393 = .ok (.invokevirtual 68, 3) := by decide +kernel
theorem d_W_law_396 : decode code 396 = .ok (.if_icmp .eq 5, 3) := by decide +kernel
theorem d_W_law_399 : decode code 399 = .ok (.iconst 0, 1) := by decide +kernel
theorem d_W_law_400 : decode code 400 = .ok (.ireturn, 1) := by decide +kernel
theorem d_W_law_401 : decode code 401 = .ok (.iinc 4 4, 3) := by decide +kernel
theorem d_W_law_404 : decode code 404 = .ok (.goto (-381), 3) := by decide +kernel
theorem d_W_law_407 : decode code 407 = .ok (.iconst 1, 1) := by decide +kernel
theorem d_W_law_408 : decode code 408 = .ok (.ireturn, 1) := by decide +kernel
