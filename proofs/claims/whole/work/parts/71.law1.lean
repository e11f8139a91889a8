theorem d_Lw_law_296 : decode code 296 = .ok (.aload_n 2, 1) := by decide +kernel
theorem d_Lw_law_297 : decode code 297 = .ok (.invokevirtual 85, 3) := by decide +kernel
theorem d_Lw_law_300 : decode code 300 = .ok (.iload 5, 2) := by decide +kernel
theorem d_Lw_law_302 : decode code 302 = .ok (.if_icmp .eq 5, 3) := by decide +kernel
theorem d_Lw_law_305 : decode code 305 = .ok (.iconst 0, 1) := by decide +kernel
theorem d_Lw_law_306 : decode code 306 = .ok (.ireturn, 1) := by decide +kernel
theorem d_Lw_law_307 : decode code 307 = .ok (.goto 698, 3) := by decide +kernel
theorem d_Lw_law_310 : decode code 310 = .ok (.aload_n 1, 1) := by decide +kernel
theorem d_Lw_law_311 : decode code 311 = .ok (.aload_n 0, 1) := by decide +kernel
theorem d_Lw_law_312 : decode code 312 = .ok (.iload 4, 2) := by decide +kernel
theorem d_Lw_law_314 : decode code 314 = .ok (.iconst 1, 1) := by decide +kernel
theorem d_Lw_law_315 : decode code 315 = .ok (.iadd, 1) := by decide +kernel
theorem d_Lw_law_316 : decode code 316 = .ok (.iaload, 1) := by decide +kernel
theorem d_Lw_law_317 : decode code 317 = .ok (.aload_n 3, 1) := by decide +kernel
theorem d_Lw_law_318 : decode code 318 = .ok (.invokestatic 92, 3) := by decide +kernel
theorem d_Lw_law_321 : decode code 321 = .ok (.istore 5, 2) := by decide +kernel
theorem d_Lw_law_323 : decode code 323 = .ok (.aload_n 2, 1) := by decide +kernel
theorem d_Lw_law_324 : decode code 324 = .ok (.aload_n 0, 1) := by decide +kernel
theorem d_Lw_law_325 : decode code 325 = .ok (.iload 4, 2) := by decide +kernel
theorem d_Lw_law_327 : decode code 327 = .ok (.iconst 1, 1) := by decide +kernel
theorem d_Lw_law_328 : decode code 328 = .ok (.iadd, 1) := by decide +kernel
theorem d_Lw_law_329 : decode code 329 = .ok (.iaload, 1) := by decide +kernel
theorem d_Lw_law_330 : decode code 330 = .ok (.invokevirtual 95, 3) := by decide +kernel
theorem d_Lw_law_333 : decode code 333 = .ok (.istore 6, 2) := by decide +kernel
theorem d_Lw_law_335 : decode code 335 = .ok (.aload_n 2, 1) := by decide +kernel
theorem d_Lw_law_336 : decode code 336 = .ok (.invokevirtual 85, 3) := by decide +kernel
theorem d_Lw_law_339 : decode code 339 = .ok (.iload 5, 2) := by decide +kernel
theorem d_Lw_law_341 : decode code 341 = .ok (.if_icmp .eq 5, 3) := by decide +kernel
theorem d_Lw_law_344 : decode code 344 = .ok (.iconst 0, 1) := by decide +kernel
theorem d_Lw_law_345 : decode code 345 = .ok (.ireturn, 1) := by decide +kernel
theorem d_Lw_law_346 : decode code 346 = .ok (.iload 5, 2) := by decide +kernel
theorem d_Lw_law_348 : decode code 348 = .ok (.ifCond .ne 15, 3) := by decide +kernel
theorem d_Lw_law_351 : decode code 351 = .ok (.aload_n 3, 1) := by decide +kernel
theorem d_Lw_law_352 : decode code 352 = .ok (.iconst 0, 1) := by decide +kernel
theorem d_Lw_law_353 : decode code 353 = .ok (.laload, 1) := by decide +kernel
theorem d_Lw_law_354 : decode code 354 = .ok (.iload 6, 2) := by decide +kernel
theorem d_Lw_law_356 : decode code 356 = .ok (.i2l, 1) := by decide +kernel
theorem d_Lw_law_357 : decode code 357 = .ok (.lcmp, 1) := by decide +kernel
theorem d_Lw_law_358 : decode code 358 = .ok (.ifCond .eq 5, 3) := by decide +kernel
theorem d_Lw_law_361 : decode code 361 = .ok (.iconst 0, 1) := by decide +kernel
theorem d_Lw_law_362 : decode code 362 = .ok (.ireturn, 1) := by decide +kernel
theorem d_Lw_law_363 : decode code 363 = .ok (.goto 642, 3) := by decide +kernel
theorem d_Lw_law_366 : decode code 366 = .ok (.aload_n 1, 1) := by decide +kernel
theorem d_Lw_law_367 : decode code 367 = .ok (.aload_n 0, 1) := by decide +kernel
theorem d_Lw_law_368 : decode code 368 = .ok (.iload 4, 2) := by decide +kernel
theorem d_Lw_law_370 : decode code 370 = .ok (.iconst 1, 1) := by decide +kernel
theorem d_Lw_law_371 : decode code 371 = .ok (.iadd, 1) := by decide +kernel
theorem d_Lw_law_372 : decode code 372 = .ok (.iaload, 1) := by decide +kernel
theorem d_Lw_law_373 : decode code 373 = .ok (.aload_n 0, 1) := by decide +kernel
theorem d_Lw_law_374 : decode code 374 = .ok (.iload 4, 2) := by decide +kernel
theorem d_Lw_law_376 : decode code 376 = .ok (.iconst 2, 1) := by decide +kernel
theorem d_Lw_law_377 : decode code 377 = .ok (.iadd, 1) := by decide +kernel
theorem d_Lw_law_378 : decode code 378 = .ok (.iaload, 1) := by decide +kernel
theorem d_Lw_law_379 : decode code 379 = .ok (.aload_n 3, 1) := by decide +kernel
theorem d_Lw_law_380 : decode code 380 = .ok (.invokestatic 96, 3) := by decide +kernel
theorem d_Lw_law_383 : decode code 383 = .ok (.istore 5, 2) := by decide +kernel
theorem d_Lw_law_385 : decode code 385 = .ok (.aload_n 2, 1) := by decide +kernel
theorem d_Lw_law_386 : decode code 386 = .ok (.aload_n 0, 1) := by decide +kernel
theorem d_Lw_law_387 : decode code 387 = .ok (.iload 4, 2) := by decide +kernel
theorem d_Lw_law_389 : decode code 389 = .ok (.iconst 1, 1) := by decide +kernel
theorem d_Lw_law_390 : decode code 390 = .ok (.iadd, 1) := by decide +kernel
theorem d_Lw_law_391 : decode code 391 = .ok (.iaload, 1) := by decide +kernel
theorem d_Lw_law_392 : decode code 392 = .ok (.aload_n 0, 1) := by decide +kernel
theorem d_Lw_law_393 : decode code 393 = .ok (.iload 4, 2) := by decide +kernel
theorem d_Lw_law_395 : decode code 395 = .ok (.iconst 2, 1) := by decide +kernel
theorem d_Lw_law_396 : decode code 396 = .ok (.iadd, 1) := by decide +kernel
theorem d_Lw_law_397 : decode code 397 = .ok (.iaload, 1) := by decide +kernel
theorem d_Lw_law_398 : decode code 398 = .ok (.invokevirtual 99, 3) := by decide +kernel
theorem d_Lw_law_401 : decode code 401 = .ok (.istore 6, 2) := by decide +kernel
theorem d_Lw_law_403 : decode code 403 = .ok (.aload_n 2, 1) := by decide +kernel
theorem d_Lw_law_404 : decode code 404 = .ok (.invokevirtual 85, 3) := by decide +kernel
theorem d_Lw_law_407 : decode code 407 = .ok (.iload 5, 2) := by decide +kernel
theorem d_Lw_law_409 : decode code 409 = .ok (.if_icmp .eq 5, 3) := by decide +kernel
theorem d_Lw_law_412 : decode code 412 = .ok (.iconst 0, 1) := by decide +kernel
theorem d_Lw_law_413 : decode code 413 = .ok (.ireturn, 1) := by decide +kernel
theorem d_Lw_law_414 : decode code 414 = .ok (.iload 5, 2) := by decide +kernel
theorem d_Lw_law_416 : decode code 416 = .ok (.ifCond .ne 15, 3) := by decide +kernel
theorem d_Lw_law_419 : decode code 419 = .ok (.aload_n 3, 1) := by decide +kernel
theorem d_Lw_law_420 : decode code 420 = .ok (.iconst 0, 1) := by decide +kernel
theorem d_Lw_law_421 : decode code 421 = .ok (.laload, 1) := by decide +kernel
theorem d_Lw_law_422 : decode code 422 = .ok (.iload 6, 2) := by decide +kernel
theorem d_Lw_law_424 : decode code 424 = .ok (.i2l, 1) := by decide +kernel
theorem d_Lw_law_425 : decode code 425 = .ok (.lcmp, 1) := by decide +kernel
theorem d_Lw_law_426 : decode code 426 = .ok (.ifCond .eq 5, 3) := by decide +kernel
theorem d_Lw_law_429 : decode code 429 = .ok (.iconst 0, 1) := by decide +kernel
theorem d_Lw_law_430 : decode code 430 = .ok (.ireturn, 1) := by decide +kernel
theorem d_Lw_law_431 : decode code 431 = .ok (.goto 574, 3) := by decide +kernel
theorem d_Lw_law_434 : decode code 434 = .ok (.aload_n 1, 1) := by decide +kernel
theorem d_Lw_law_435 : decode code 435 = .ok (.aload_n 0, 1) := by decide +kernel
theorem d_Lw_law_436 : decode code 436 = .ok (.iload 4, 2) := by decide +kernel
theorem d_Lw_law_438 : decode code 438 = .ok (.iconst 1, 1) := by decide +kernel
theorem d_Lw_law_439 : decode code 439 = .ok (.iadd, 1) := by decide +kernel
theorem d_Lw_law_440 : decode code 440 = .ok (.iaload, 1) := by decide +kernel
theorem d_Lw_law_441 : decode code 441 = .ok (.aload_n 3, 1) := by decide +kernel
theorem d_Lw_law_442 : decode code 442 = .ok (.invokestatic 100, 3) := by decide +kernel
theorem d_Lw_law_445 : decode code 445 = .ok (.istore 5, 2) := by decide +kernel
theorem d_Lw_law_447 : decode code 447 = .ok (.aload_n 2, 1) := by decide +kernel
theorem d_Lw_law_448 : decode code 448 = .ok (.aload_n 0, 1) := by decide +kernel
theorem d_Lw_law_449 : decode code 449 = .ok (.iload 4, 2) := by decide +kernel
theorem d_Lw_law_451 : decode code 451 = .ok (.iconst 1, 1) := by decide +kernel
theorem d_Lw_law_452 : decode code 452 = .ok (.iadd, 1) := by decide +kernel
theorem d_Lw_law_453 : decode code 453 = .ok (.iaload, 1) := by decide +kernel
theorem d_Lw_law_454 : decode code 454 = .ok (.invokevirtual 102, 3) := by decide +kernel
theorem d_Lw_law_457 : decode code 457 = .ok (.istore 6, 2) := by decide +kernel
theorem d_Lw_law_459 : decode code 459 = .ok (.aload_n 2, 1) := by decide +kernel
theorem d_Lw_law_460 : decode code 460 = .ok (.invokevirtual 85, 3) := by decide +kernel
theorem d_Lw_law_463 : decode code 463 = .ok (.iload 5, 2) := by decide +kernel
theorem d_Lw_law_465 : decode code 465 = .ok (.if_icmp .eq 5, 3) := by decide +kernel
theorem d_Lw_law_468 : decode code 468 = .ok (.iconst 0, 1) := by decide +kernel
theorem d_Lw_law_469 : decode code 469 = .ok (.ireturn, 1) := by decide +kernel
theorem d_Lw_law_470 : decode code 470 = .ok (.iload 5, 2) := by decide +kernel
theorem d_Lw_law_472 : decode code 472 = .ok (.ifCond .ne 15, 3) := by decide +kernel
theorem d_Lw_law_475 : decode code 475 = .ok (.aload_n 3, 1) := by decide +kernel
theorem d_Lw_law_476 : decode code 476 = .ok (.iconst 0, 1) := by decide +kernel
theorem d_Lw_law_477 : decode code 477 = .ok (.laload, 1) := by decide +kernel
theorem d_Lw_law_478 : decode code 478 = .ok (.iload 6, 2) := by decide +kernel
theorem d_Lw_law_480 : decode code 480 = .ok (.i2l, 1) := by decide +kernel
theorem d_Lw_law_481 : decode code 481 = .ok (.lcmp, 1) := by decide +kernel
theorem d_Lw_law_482 : decode code 482 = .ok (.ifCond .eq 5, 3) := by decide +kernel
theorem d_Lw_law_485 : decode code 485 = .ok (.iconst 0, 1) := by decide +kernel
theorem d_Lw_law_486 : decode code 486 = .ok (.ireturn, 1) := by decide +kernel
theorem d_Lw_law_487 : decode code 487 = .ok (.goto 518, 3) := by decide +kernel
theorem d_Lw_law_490 : decode code 490 = .ok (.aload_n 1, 1) := by decide +kernel
theorem d_Lw_law_491 : decode code 491 = .ok (.aload_n 0, 1) := by decide +kernel
theorem d_Lw_law_492 : decode code 492 = .ok (.iload 4, 2) := by decide +kernel
theorem d_Lw_law_494 : decode code 494 = .ok (.iconst 1, 1) := by decide +kernel
theorem d_Lw_law_495 : decode code 495 = .ok (.iadd, 1) := by decide +kernel
theorem d_Lw_law_496 : decode code 496 = .ok (.iaload, 1) := by decide +kernel
theorem d_Lw_law_497 : decode code 497 = .ok (.aload_n 0, 1) := by decide +kernel
theorem d_Lw_law_498 : decode code 498 = .ok (.iload 4, 2) := by decide +kernel
theorem d_Lw_law_500 : decode code 500 = .ok (.iconst 2, 1) := by decide +kernel
theorem d_Lw_law_501 : decode code 501 = .ok (.iadd, 1) := by decide +kernel
theorem d_Lw_law_502 : decode code 502 = .ok (.iaload, 1) := by decide +kernel
theorem d_Lw_law_503 : decode code 503 = .ok (.aload_n 0, 1) := by decide +kernel
theorem d_Lw_law_504 : decode code 504 = .ok (.iload 4, 2) := by decide +kernel
theorem d_Lw_law_506 : decode code 506 = .ok (.iconst 3, 1) := by decide +kernel
theorem d_Lw_law_507 : decode code 507 = .ok (.iadd, 1) := by decide +kernel
theorem d_Lw_law_508 : decode code 508 = .ok (.iaload, 1) := by decide +kernel
theorem d_Lw_law_509 : decode code 509 = .ok (.aload_n 3, 1) := by decide +kernel
theorem d_Lw_law_510 : decode code 510 = .ok (.invokestatic 103, 3) := by decide +kernel
theorem d_Lw_law_513 : decode code 513 = .ok (.istore 5, 2) := by decide +kernel
theorem d_Lw_law_515 : decode code 515 = .ok (.aload_n 2, 1) := by decide +kernel
theorem d_Lw_law_516 : decode code 516 = .ok (.aload_n 0, 1) := by decide +kernel
theorem d_Lw_law_517 : decode code 517 = .ok (.iload 4, 2) := by decide +kernel
theorem d_Lw_law_519 : decode code 519 = .ok (.iconst 1, 1) := by decide +kernel
theorem d_Lw_law_520 : decode code 520 = .ok (.iadd, 1) := by decide +kernel
theorem d_Lw_law_521 : decode code 521 = .ok (.iaload, 1) := by decide +kernel
theorem d_Lw_law_522 : decode code 522 = .ok (.aload_n 0, 1) := by decide +kernel
theorem d_Lw_law_523 : decode code 523 = .ok (.iload 4, 2) := by decide +kernel
theorem d_Lw_law_525 : decode code 525 = .ok (.iconst 2, 1) := by decide +kernel
theorem d_Lw_law_526 : decode code 526 = .ok (.iadd, 1) := by decide +kernel
theorem d_Lw_law_527 : decode code 527 = .ok (.iaload, 1) := by decide +kernel
theorem d_Lw_law_528 : decode code 528 = .ok (.aload_n 0, 1) := by decide +kernel
theorem d_Lw_law_529 : decode code 529 = .ok (.iload 4, 2) := by decide +kernel
theorem d_Lw_law_531 : decode code 531 = .ok (.iconst 3, 1) := by decide +kernel
theorem d_Lw_law_532 : decode code 532 = .ok (.iadd, 1) := by decide +kernel
theorem d_Lw_law_533 : decode code 533 = .ok (.iaload, 1) := by decide +kernel
theorem d_Lw_law_534 : decode code 534 = .ok (.invokevirtual 106, 3) := by decide +kernel
theorem d_Lw_law_537 : decode code 537 = .ok (.istore 6, 2) := by decide +kernel
theorem d_Lw_law_539 : decode code 539 = .ok (.aload_n 2, 1) := by decide +kernel
