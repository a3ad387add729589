theorem dL_397 : decode code 397 = .ok (.iconst 0, 1) := by decide +kernel
theorem dL_398 : decode code 398 = .ok (.ireturn, 1) := by decide +kernel
theorem dL_399 : decode code 399 = .ok (.aload_n 1, 1) := by decide +kernel
theorem dL_400 : decode code 400 = .ok (.aload_n 0, 1) := by decide +kernel
theorem dL_401 : decode code 401 = .ok (.iload 4, 2) := by decide +kernel
theorem dL_403 : decode code 403 = .ok (.iconst 1, 1) := by decide +kernel
theorem dL_404 : decode code 404 = .ok (.iadd, 1) := by decide +kernel
theorem dL_405 : decode code 405 = .ok (.iaload, 1) := by decide +kernel
theorem dL_406 : decode code 406 = .ok (.aload_n 0, 1) := by decide +kernel
theorem dL_407 : decode code 407 = .ok (.iload 4, 2) := by decide +kernel
theorem dL_409 : decode code 409 = .ok (.iconst 2, 1) := by decide +kernel
theorem dL_410 : decode code 410 = .ok (.iadd, 1) := by decide +kernel
theorem dL_411 : decode code 411 = .ok (.iaload, 1) := by decide +kernel
theorem dL_412 : decode code 412 = .ok (.ifCond .eq 7, 3) := by decide +kernel
theorem dL_415 : decode code 415 = .ok (.iconst 1, 1) := by decide +kernel
theorem dL_416 : decode code 416 = .ok (.goto 4, 3) := by decide +kernel
theorem dL_419 : decode code 419 = .ok (.iconst 0, 1) := by decide +kernel
theorem dL_420 : decode code 420 = .ok (.invokevirtual 48, 3) := by decide +kernel
theorem dL_423 : decode code 423 = .ok (.aload_n 2, 1) := by decide +kernel
theorem dL_424 : decode code 424 = .ok (.aload_n 0, 1) := by decide +kernel
theorem dL_425 : decode code 425 = .ok (.iload 4, 2) := by decide +kernel
theorem dL_427 : decode code 427 = .ok (.iconst 1, 1) := by decide +kernel
theorem dL_428 : decode code 428 = .ok (.iadd, 1) := by decide +kernel
theorem dL_429 : decode code 429 = .ok (.iaload, 1) := by decide +kernel
theorem dL_430 : decode code 430 = .ok (.aload_n 0, 1) := by decide +kernel
theorem dL_431 : decode code 431 = .ok (.iload 4, 2) := by decide +kernel
theorem dL_433 : decode code 433 = .ok (.iconst 2, 1) := by decide +kernel
theorem dL_434 : decode code 434 = .ok (.iadd, 1) := by decide +kernel
theorem dL_435 : decode code 435 = .ok (.iaload, 1) := by decide +kernel
theorem dL_436 : decode code 436 = .ok (.ifCond .eq 7, 3) := by decide +kernel
theorem dL_439 : decode code 439 = .ok (.iconst 1, 1) := by decide +kernel
theorem dL_440 : decode code 440 = .ok (.goto 4, 3) := by decide +kernel
theorem dL_443 : decode code 443 = .ok (.iconst 0, 1) := by decide +kernel
theorem dL_444 : decode code 444 = .ok (.invokevirtual 52, 3) := by decide +kernel
theorem dL_447 : decode code 447 = .ok (.if_icmp .eq 624, 3) := by decide +kernel
theorem dL_450 : decode code 450 = .ok (.iconst 0, 1) := by decide +kernel
theorem dL_451 : decode code 451 = .ok (.ireturn, 1) := by decide +kernel
theorem dL_452 : decode code 452 = .ok (.aload_n 1, 1) := by decide +kernel
theorem dL_453 : decode code 453 = .ok (.aload_n 0, 1) := by decide +kernel
theorem dL_454 : decode code 454 = .ok (.iload 4, 2) := by decide +kernel
theorem dL_456 : decode code 456 = .ok (.iconst 1, 1) := by decide +kernel
theorem dL_457 : decode code 457 = .ok (.iadd, 1) := by decide +kernel
theorem dL_458 : decode code 458 = .ok (.iaload, 1) := by decide +kernel
theorem dL_459 : decode code 459 = .ok (.invokevirtual 53, 3) := by decide +kernel
theorem dL_462 : decode code 462 = .ok (.aload_n 2, 1) := by decide +kernel
theorem dL_463 : decode code 463 = .ok (.aload_n 0, 1) := by decide +kernel
theorem dL_464 : decode code 464 = .ok (.iload 4, 2) := by decide +kernel
theorem dL_466 : decode code 466 = .ok (.iconst 1, 1) := by decide +kernel
theorem dL_467 : decode code 467 = .ok (.iadd, 1) := by decide +kernel
theorem dL_468 : decode code 468 = .ok (.iaload, 1) := by decide +kernel
theorem dL_469 : decode code 469 = .ok (.invokevirtual 56, 3) := by decide +kernel
theorem dL_472 : decode code 472 = .ok (.if_icmp .eq 599, 3) := by decide +kernel
theorem dL_475 : decode code 475 = .ok (.iconst 0, 1) := by decide +kernel
theorem dL_476 : decode code 476 = .ok (.ireturn, 1) := by decide +kernel
theorem dL_477 : decode code 477 = .ok (.aload_n 1, 1) := by decide +kernel
theorem dL_478 : decode code 478 = .ok (.invokevirtual 57, 3) := by decide +kernel
theorem dL_481 : decode code 481 = .ok (.aload_n 2, 1) := by decide +kernel
theorem dL_482 : decode code 482 = .ok (.invokevirtual 60, 3) := by decide +kernel
theorem dL_485 : decode code 485 = .ok (.if_icmp .eq 586, 3) := by decide +kernel
theorem dL_488 : decode code 488 = .ok (.iconst 0, 1) := by decide +kernel
theorem dL_489 : decode code 489 = .ok (.ireturn, 1) := by decide +kernel
theorem dL_490 : decode code 490 = .ok (.aload_n 1, 1) := by decide +kernel
theorem dL_491 : decode code 491 = .ok (.invokevirtual 61, 3) := by decide +kernel
theorem dL_494 : decode code 494 = .ok (.aload_n 2, 1) := by decide +kernel
theorem dL_495 : decode code 495 = .ok (.invokevirtual 65, 3) := by decide +kernel
theorem dL_498 : decode code 498 = .ok (.if_icmp .eq 573, 3) := by decide +kernel
theorem dL_501 : decode code 501 = .ok (.iconst 0, 1) := by decide +kernel
theorem dL_502 : decode code 502 = .ok (.ireturn, 1) := by decide +kernel
theorem dL_503 : decode code 503 = .ok (.aload_n 1, 1) := by decide +kernel
theorem dL_504 : decode code 504 = .ok (.aload_n 0, 1) := by decide +kernel
theorem dL_505 : decode code 505 = .ok (.iload 4, 2) := by decide +kernel
theorem dL_507 : decode code 507 = .ok (.iconst 1, 1) := by decide +kernel
theorem dL_508 : decode code 508 = .ok (.iadd, 1) := by decide +kernel
theorem dL_509 : decode code 509 = .ok (.iaload, 1) := by decide +kernel
theorem dL_510 : decode code 510 = .ok (.invokevirtual 66, 3) := by decide +kernel
theorem dL_513 : decode code 513 = .ok (.aload_n 2, 1) := by decide +kernel
theorem dL_514 : decode code 514 = .ok (.aload_n 0, 1) := by decide +kernel
theorem dL_515 : decode code 515 = .ok (.iload 4, 2) := by decide +kernel
theorem dL_517 : decode code 517 = .ok (.iconst 1, 1) := by decide +kernel
theorem dL_518 : decode code 518 = .ok (.iadd, 1) := by decide +kernel
theorem dL_519 : decode code 519 = .ok (.iaload, 1) := by decide +kernel
theorem dL_520 : decode code 520 = .ok (.invokevirtual 69, 3) := by decide +kernel
theorem dL_523 : decode code 523 = .ok (.if_icmp .eq 548, 3) := by decide +kernel
theorem dL_526 : decode code 526 = .ok (.iconst 0, 1) := by decide +kernel
theorem dL_527 : decode code 527 = .ok (.ireturn, 1) := by decide +kernel
theorem dL_528 : decode code 528 = .ok (.aload_n 1, 1) := by decide +kernel
theorem dL_529 : decode code 529 = .ok (.aload_n 0, 1) := by decide +kernel
theorem dL_530 : decode code 530 = .ok (.iload 4, 2) := by decide +kernel
theorem dL_532 : decode code 532 = .ok (.iconst 1, 1) := by decide +kernel
theorem dL_533 : decode code 533 = .ok (.iadd, 1) := by decide +kernel
