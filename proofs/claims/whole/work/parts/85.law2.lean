/-! The law's instructions. -/
theorem d_La_law_370 : decode b_La_law 370 = .ok (.invokevirtual 41, 3) := by decide +kernel
theorem d_La_law_373 : decode b_La_law 373 = .ok (.if_icmp .eq 291, 3) := by decide +kernel
theorem d_La_law_376 : decode b_La_law 376 = .ok (.iconst 0, 1) := by decide +kernel
theorem d_La_law_377 : decode b_La_law 377 = .ok (.ireturn, 1) := by decide +kernel
theorem d_La_law_378 : decode b_La_law 378 = .ok (.aload_n 1, 1) := by decide +kernel
theorem d_La_law_379 : decode b_La_law 379 = .ok (.aload_n 0, 1) := by decide +kernel
theorem d_La_law_380 : decode b_La_law 380 = .ok (.iload_n 3, 1) := by decide +kernel
theorem d_La_law_381 : decode b_La_law 381 = .ok (.iconst 1, 1) := by decide +kernel
theorem d_La_law_382 : decode b_La_law 382 = .ok (.iadd, 1) := by decide +kernel
theorem d_La_law_383 : decode b_La_law 383 = .ok (.iaload, 1) := by decide +kernel
theorem d_La_law_384 : decode b_La_law 384 = .ok (.invokevirtual 42, 3) := by decide +kernel
theorem d_La_law_387 : decode b_La_law 387 = .ok (.aload_n 2, 1) := by decide +kernel
theorem d_La_law_388 : decode b_La_law 388 = .ok (.aload_n 0, 1) := by decide +kernel
theorem d_La_law_389 : decode b_La_law 389 = .ok (.iload_n 3, 1) := by decide +kernel
theorem d_La_law_390 : decode b_La_law 390 = .ok (.iconst 1, 1) := by decide +kernel
theorem d_La_law_391 : decode b_La_law 391 = .ok (.iadd, 1) := by decide +kernel
theorem d_La_law_392 : decode b_La_law 392 = .ok (.iaload, 1) := by decide +kernel
theorem d_La_law_393 : decode b_La_law 393 = .ok (.invokevirtual 46, 3) := by decide +kernel
theorem d_La_law_396 : decode b_La_law 396 = .ok (.if_icmp .eq 268, 3) := by decide +kernel
theorem d_La_law_399 : decode b_La_law 399 = .ok (.iconst 0, 1) := by decide +kernel
theorem d_La_law_400 : decode b_La_law 400 = .ok (.ireturn, 1) := by decide +kernel
theorem d_La_law_401 : decode b_La_law 401 = .ok (.aload_n 1, 1) := by decide +kernel
theorem d_La_law_402 : decode b_La_law 402 = .ok (.invokevirtual 47, 3) := by decide +kernel
theorem d_La_law_405 : decode b_La_law 405 = .ok (.aload_n 2, 1) := by decide +kernel
theorem d_La_law_406 : decode b_La_law 406 = .ok (.invokevirtual 51, 3) := by decide +kernel
theorem d_La_law_409 : decode b_La_law 409 = .ok (.if_icmp .eq 255, 3) := by decide +kernel
theorem d_La_law_412 : decode b_La_law 412 = .ok (.iconst 0, 1) := by decide +kernel
theorem d_La_law_413 : decode b_La_law 413 = .ok (.ireturn, 1) := by decide +kernel
theorem d_La_law_414 : decode b_La_law 414 = .ok (.aload_n 1, 1) := by decide +kernel
theorem d_La_law_415 : decode b_La_law 415 = .ok (.aload_n 0, 1) := by decide +kernel
theorem d_La_law_416 : decode b_La_law 416 = .ok (.iload_n 3, 1) := by decide +kernel
theorem d_La_law_417 : decode b_La_law 417 = .ok (.iconst 1, 1) := by decide +kernel
theorem d_La_law_418 : decode b_La_law 418 = .ok (.iadd, 1) := by decide +kernel
theorem d_La_law_419 : decode b_La_law 419 = .ok (.iaload, 1) := by decide +kernel
theorem d_La_law_420 : decode b_La_law 420 = .ok (.aload_n 0, 1) := by decide +kernel
theorem d_La_law_421 : decode b_La_law 421 = .ok (.iload_n 3, 1) := by decide +kernel
theorem d_La_law_422 : decode b_La_law 422 = .ok (.iconst 2, 1) := by decide +kernel
theorem d_La_law_423 : decode b_La_law 423 = .ok (.iadd, 1) := by decide +kernel
theorem d_La_law_424 : decode b_La_law 424 = .ok (.iaload, 1) := by decide +kernel
theorem d_La_law_425 : decode b_La_law 425 = .ok (.invokevirtual 52, 3) := by decide +kernel
theorem d_La_law_428 : decode b_La_law 428 = .ok (.aload_n 2, 1) := by decide +kernel
theorem d_La_law_429 : decode b_La_law 429 = .ok (.aload_n 0, 1) := by decide +kernel
theorem d_La_law_430 : decode b_La_law 430 = .ok (.iload_n 3, 1) := by decide +kernel
theorem d_La_law_431 : decode b_La_law 431 = .ok (.iconst 1, 1) := by decide +kernel
theorem d_La_law_432 : decode b_La_law 432 = .ok (.iadd, 1) := by decide +kernel
theorem d_La_law_433 : decode b_La_law 433 = .ok (.iaload, 1) := by decide +kernel
theorem d_La_law_434 : decode b_La_law 434 = .ok (.aload_n 0, 1) := by decide +kernel
theorem d_La_law_435 : decode b_La_law 435 = .ok (.iload_n 3, 1) := by decide +kernel
theorem d_La_law_436 : decode b_La_law 436 = .ok (.iconst 2, 1) := by decide +kernel
theorem d_La_law_437 : decode b_La_law 437 = .ok (.iadd, 1) := by decide +kernel
theorem d_La_law_438 : decode b_La_law 438 = .ok (.iaload, 1) := by decide +kernel
theorem d_La_law_439 : decode b_La_law 439 = .ok (.invokevirtual 56, 3) := by decide +kernel
theorem d_La_law_442 : decode b_La_law 442 = .ok (.if_icmp .eq 222, 3) := by decide +kernel
theorem d_La_law_445 : decode b_La_law 445 = .ok (.iconst 0, 1) := by decide +kernel
theorem d_La_law_446 : decode b_La_law 446 = .ok (.ireturn, 1) := by decide +kernel
theorem d_La_law_447 : decode b_La_law 447 = .ok (.aload_n 1, 1) := by decide +kernel
theorem d_La_law_448 : decode b_La_law 448 = .ok (.aload_n 0, 1) := by decide +kernel
theorem d_La_law_449 : decode b_La_law 449 = .ok (.iload_n 3, 1) := by decide +kernel
theorem d_La_law_450 : decode b_La_law 450 = .ok (.iconst 1, 1) := by decide +kernel
theorem d_La_law_451 : decode b_La_law 451 = .ok (.iadd, 1) := by decide +kernel
theorem d_La_law_452 : decode b_La_law 452 = .ok (.iaload, 1) := by decide +kernel
theorem d_La_law_453 : decode b_La_law 453 = .ok (.aload_n 0, 1) := by decide +kernel
theorem d_La_law_454 : decode b_La_law 454 = .ok (.iload_n 3, 1) := by decide +kernel
theorem d_La_law_455 : decode b_La_law 455 = .ok (.iconst 2, 1) := by decide +kernel
theorem d_La_law_456 : decode b_La_law 456 = .ok (.iadd, 1) := by decide +kernel
theorem d_La_law_457 : decode b_La_law 457 = .ok (.iaload, 1) := by decide +kernel
theorem d_La_law_458 : decode b_La_law 458 = .ok (.invokevirtual 57, 3) := by decide +kernel
theorem d_La_law_461 : decode b_La_law 461 = .ok (.aload_n 2, 1) := by decide +kernel
theorem d_La_law_462 : decode b_La_law 462 = .ok (.aload_n 0, 1) := by decide +kernel
theorem d_La_law_463 : decode b_La_law 463 = .ok (.iload_n 3, 1) := by decide +kernel
theorem d_La_law_464 : decode b_La_law 464 = .ok (.iconst 1, 1) := by decide +kernel
theorem d_La_law_465 : decode b_La_law 465 = .ok (.iadd, 1) := by decide +kernel
theorem d_La_law_466 : decode b_La_law 466 = .ok (.iaload, 1) := by decide +kernel
theorem d_La_law_467 : decode b_La_law 467 = .ok (.aload_n 0, 1) := by decide +kernel
theorem d_La_law_468 : decode b_La_law 468 = .ok (.iload_n 3, 1) := by decide +kernel
theorem d_La_law_469 : decode b_La_law 469 = .ok (.iconst 2, 1) := by decide +kernel
theorem d_La_law_470 : decode b_La_law 470 = .ok (.iadd, 1) := by decide +kernel
theorem d_La_law_471 : decode b_La_law 471 = .ok (.iaload, 1) := by decide +kernel
theorem d_La_law_472 : decode b_La_law 472 = .ok (.invokevirtual 60, 3) := by decide +kernel
theorem d_La_law_475 : decode b_La_law 475 = .ok (.if_icmp .eq 189, 3) := by decide +kernel
theorem d_La_law_478 : decode b_La_law 478 = .ok (.iconst 0, 1) := by decide +kernel
theorem d_La_law_479 : decode b_La_law 479 = .ok (.ireturn, 1) := by decide +kernel
theorem d_La_law_480 : decode b_La_law 480 = .ok (.aload_n 1, 1) := by decide +kernel
theorem d_La_law_481 : decode b_La_law 481 = .ok (.aload_n 0, 1) := by decide +kernel
theorem d_La_law_482 : decode b_La_law 482 = .ok (.iload_n 3, 1) := by decide +kernel
theorem d_La_law_483 : decode b_La_law 483 = .ok (.iconst 1, 1) := by decide +kernel
theorem d_La_law_484 : decode b_La_law 484 = .ok (.iadd, 1) := by decide +kernel
theorem d_La_law_485 : decode b_La_law 485 = .ok (.iaload, 1) := by decide +kernel
theorem d_La_law_486 : decode b_La_law 486 = .ok (.invokevirtual 61, 3) := by decide +kernel
theorem d_La_law_489 : decode b_La_law 489 = .ok (.aload_n 2, 1) := by decide +kernel
theorem d_La_law_490 : decode b_La_law 490 = .ok (.aload_n 0, 1) := by decide +kernel
theorem d_La_law_491 : decode b_La_law 491 = .ok (.iload_n 3, 1) := by decide +kernel
theorem d_La_law_492 : decode b_La_law 492 = .ok (.iconst 1, 1) := by decide +kernel
theorem d_La_law_493 : decode b_La_law 493 = .ok (.iadd, 1) := by decide +kernel
theorem d_La_law_494 : decode b_La_law 494 = .ok (.iaload, 1) := by decide +kernel
theorem d_La_law_495 : decode b_La_law 495 = .ok (.invokevirtual 64, 3) := by decide +kernel
theorem d_La_law_498 : decode b_La_law 498 = .ok (.if_icmp .eq 166, 3) := by decide +kernel
theorem d_La_law_501 : decode b_La_law 501 = .ok (.iconst 0, 1) := by decide +kernel
theorem d_La_law_502 : decode b_La_law 502 = .ok (.ireturn, 1) := by decide +kernel
theorem d_La_law_503 : decode b_La_law 503 = .ok (.aload_n 1, 1) := by decide +kernel
theorem d_La_law_504 : decode b_La_law 504 = .ok (.aload_n 0, 1) := by decide +kernel
theorem d_La_law_505 : decode b_La_law 505 = .ok (.iload_n 3, 1) := by decide +kernel
theorem d_La_law_506 : decode b_La_law 506 = .ok (.iconst 1, 1) := by decide +kernel
theorem d_La_law_507 : decode b_La_law 507 = .ok (.iadd, 1) := by decide +kernel
theorem d_La_law_508 : decode b_La_law 508 = .ok (.iaload, 1) := by decide +kernel
theorem d_La_law_509 : decode b_La_law 509 = .ok (.invokevirtual 65, 3) := by decide +kernel
theorem d_La_law_512 : decode b_La_law 512 = .ok (.aload_n 2, 1) := by decide +kernel
theorem d_La_law_513 : decode b_La_law 513 = .ok (.aload_n 0, 1) := by decide +kernel
theorem d_La_law_514 : decode b_La_law 514 = .ok (.iload_n 3, 1) := by decide +kernel
theorem d_La_law_515 : decode b_La_law 515 = .ok (.iconst 1, 1) := by decide +kernel
theorem d_La_law_516 : decode b_La_law 516 = .ok (.iadd, 1) := by decide +kernel
theorem d_La_law_517 : decode b_La_law 517 = .ok (.iaload, 1) := by decide +kernel
theorem d_La_law_518 : decode b_La_law 518 = .ok (.invokevirtual 68, 3) := by decide +kernel
theorem d_La_law_521 : decode b_La_law 521 = .ok (.if_icmp .eq 143, 3) := by decide +kernel
theorem d_La_law_524 : decode b_La_law 524 = .ok (.iconst 0, 1) := by decide +kernel
theorem d_La_law_525 : decode b_La_law 525 = .ok (.ireturn, 1) := by decide +kernel
theorem d_La_law_526 : decode b_La_law 526 = .ok (.aload_n 1, 1) := by decide +kernel
theorem d_La_law_527 : decode b_La_law 527 = .ok (.aload_n 0, 1) := by decide +kernel
theorem d_La_law_528 : decode b_La_law 528 = .ok (.iload_n 3, 1) := by decide +kernel
theorem d_La_law_529 : decode b_La_law 529 = .ok (.iconst 1, 1) := by decide +kernel
